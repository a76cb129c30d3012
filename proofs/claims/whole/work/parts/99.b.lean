theorem zsj_fr {I J : zFI} (e : J 0 15 = I 0 15) (e2 : J 18 = I 18) (n : Nat) : zsj J n = zsj I n := by
  unfold zsj p_X11_lastDaySeen
  rw [e, e2]
theorem op_write {G : Gp} {S : zSh} {I : zFI} {L : zFL} {n jn mn tl ln on : Nat} {v1 : Int32} (h : iAll S I n jn mn tl ln on) (hJ : I 0 16 = 0 → zJ2 S I L (zsj I jn)) : zOpI G mX11_write fX11_write lX11_write mX12_write fX12_write lX12_write [.int v1] S I L 0 0 (fun S' I' L' => S' = S ∧ (∃ on', iAll S I' n jn mn tl ln on') ∧ zAft S I L I' L' jn) := by
  refine ZC.of' (vX11_write_0 h.1 ⟨fun c1 => ?_, fun c1 => ⟨_, rfl, ?_⟩⟩) rfl (Nat.le_of_ble_eq_true rfl) rfl
  · have cv := Classical.not_not.mp (fun q => c1 (isCu_0.mpr q))
    obtain ⟨c, hc, e1⟩ := of_01 cv
    rw [e1]
    refine c_fresh h hJ (fun I1 L1 A w z a => ⟨rfl, rfl, c_write A hc z (fun I2 g => ⟨_, rfl, ?_⟩)⟩)
    obtain ⟨g1, g2, g3, g4⟩ := g
    have h48 := A.2.2.2.1.2.1
    have sl := zsj_le I1 jn
    have big : ∀ x, x ∈ zScr → 67 ≤ x ∧ x ≠ 82 ∧ x ≠ 83 ∧ x ≠ 138 ∧ x < 139 := by decide
    have M2 : iMid S I2 n jn mn tl ln := A.mid.fr (fun b hb => g1 b (fun y => hb (by rw [y]; exact List.mem_cons_self)) (fun y => hb (by rw [y]; exact List.mem_cons_of_mem _ List.mem_cons_self))) (by rw [g1 77 (by omega) (by omega)]) (fun k hk => g2 k (fun y => hk (by rw [y]; exact List.mem_cons_self))) (fun k _ => by rw [g1 84 (by omega) (by omega)])
    have k2 : zKe I1 I2 := fun a ha => g1 a (by omega) (by omega)
    have sj2 : zsj I2 jn = zsj I1 jn := zsj_fr (g2 15 (by omega)) (g1 18 (by omega) (by omega)) jn
    have z2 : zJ2 S I2 L1 (zsj I2 jn) := by
      rw [sj2]
      exact z.keep h.1 k2
    have e5 : I2 (27 + 8 * c + 5) = I1 (27 + 8 * c + 5) := k2 _ (by omega)
    have e16 : I2 16 = I1 16 := k2 16 (by omega)
    have pr := z.pr A hc
    have room48 : (zwz (I1 (27 + 8 * c + 5)) (I1 16) (zfb L1 (27 + 8 * c)) 48).length ≤ 168 := by
      have := zwz_len (I1 (27 + 8 * c + 5)) (I1 16) (zfb L1 (27 + 8 * c)) 48
      have := zpa_24 pr.1 (z.hole A hc)
      omega
    refine ZC.of' (vX12_write_0 h.1 ⟨fun _ => m_joinsTold2 M2 hc z2 (fun J wj m _ => ⟨rfl, rfl, ?_⟩), fun q => absurd (nI_01 hc) (isIn_01.mp q)⟩) rfl (Nat.le_of_ble_eq_true rfl) rfl
    have ke : ∀ K, zMo (u2 J 84 90 0) K [] ∨ True → True := fun _ _ => trivial
    -- the model's states behind the joins
    have low : ∀ (K : zFI) (l : List Int32), zMo (u2 J 84 90 0) K l → (∀ b, b ∉ (0 :: 82 :: 138 :: zScr : List Nat) → K b = I1 b) ∧ (∀ b, b ≠ 84 → b ≠ 138 → b ∉ zScr → K b = I2 b) ∧ iMid S K n jn mn tl ln := fun K l gm => by
      obtain ⟨m1, m2, m3, m4⟩ := gm
      have r : ∀ b, b ≠ 84 → b ≠ 138 → b ∉ zScr → K b = I2 b := fun b b1 b2 b3 => by
        rw [m1 b b1 b2, ← u2_row _ _ _ _ b1, wj.1 b b3]
      have r84 : ∀ k, k ∈ zKeep84 → k ≠ 90 → K 84 k = I2 84 k := fun k hk hn => by
        rw [m2 k hn, u2_ne _ _ _ _ (fun y => hn y.2), wj.2.2 k hk]
      have r77 : K 77 0 = I2 77 0 := by
        rw [m1 77 (by omega) (by omega), ← u2_row _ _ _ _ (show (77 : Nat) ≠ 84 by omega), wj.2.1]
      have n84 : (84 : Nat) ∈ zScr := by decide
      refine ⟨fun b hb => ?_, r, ?_⟩
      · have hb' : b ≠ 0 ∧ b ≠ 82 ∧ b ≠ 138 ∧ b ∉ zScr := ⟨fun y => hb (by rw [y]; exact List.mem_cons_self), fun y => hb (by rw [y]; exact List.mem_cons_of_mem _ List.mem_cons_self), fun y => hb (by rw [y]; exact List.mem_cons_of_mem _ (List.mem_cons_of_mem _ List.mem_cons_self)), fun y => hb (List.mem_cons_of_mem _ (List.mem_cons_of_mem _ (List.mem_cons_of_mem _ y)))⟩
        rw [r b (fun y => hb'.2.2.2 (by rw [y]; exact n84)) hb'.2.2.1 hb'.2.2.2, g1 b hb'.1 hb'.2.1]
      · refine M2.fr (fun b hb => ?_) r77 (fun k _ => by rw [r 0 (by omega) (by omega) (by decide)]) (fun k hk => r84 k ?_ ?_)
        · have hb' : b ≠ 138 ∧ b ∉ zScr := ⟨fun y => hb (by rw [y]; exact List.mem_cons_of_mem _ (List.mem_cons_of_mem _ List.mem_cons_self)), fun y => hb (List.mem_cons_of_mem _ (List.mem_cons_of_mem _ (List.mem_cons_of_mem _ y)))⟩
          exact r b (fun y => hb'.2 (by rw [y]; exact n84)) hb'.1 hb'.2
        · have : ∀ k, k ∈ ([1, 2, 3, 13, 19, 26, 36, 37, 79] : List Nat) → k ∈ zKeep84 := by decide
          exact this k hk
        · intro y
          rw [y] at hk
          exact absurd hk (by decide)
    have key : ∀ (k x : Nat) (K : zFI), x + k = jn → zMo (u2 J 84 90 0) K (zwz (I1 (27 + 8 * c + 5)) (I1 16) (zfb L1 (27 + 8 * c)) x) → ZW G mX12_write fX12_write lX12_write 29 [zo G 84, .int (nI c), .int (nI x)] [] S K L1 0 0 (fun v' S'' I'' L'' => v' = some (.int (I2 0 12)) ∧ S'' = S ∧ (∃ on', iAll S I'' n jn mn tl ln on') ∧ zAft S I L I'' L'' jn) := by
      intro k
      induction k with
      | zero =>
        intro x K hx gm
        have hx : x = jn := by omega
        rw [hx] at gm
        rw [hx]
        have full : zwz (I1 (27 + 8 * c + 5)) (I1 16) (zfb L1 (27 + 8 * c)) 48 = zwz (I1 (27 + 8 * c + 5)) (I1 16) (zfb L1 (27 + 8 * c)) jn := zwz_part h48 (fun x h1 h2 => pr.2.1 x h2 (by omega))
        rw [← full] at gm
        obtain ⟨lo1, lo2, lo3⟩ := low K _ gm
        obtain ⟨m1, m2, m3, m4⟩ := gm
        have n82 : (82 : Nat) ∉ zScr := by decide
        have n0 : (0 : Nat) ∉ zScr := by decide
        refine vX12_write_29 h.1 ⟨fun _ => ⟨?_, rfl, ⟨_, lo3.all (on := (zwz (I1 (27 + 8 * c + 5)) (I1 16) (zfb L1 (27 + 8 * c)) 48).length) ⟨?_, by omega, m3, fun k hk => ?_⟩⟩, ?_⟩, fun no => ?_⟩
        · rw [m3, g3]
        · rw [lo2 0 (by omega) (by omega) n0]
          exact g3
        · rw [m4 k hk, lo2 82 (by omega) (by omega) n82, g4 k hk]
        · have kk : zKe I1 K := fun a ha => lo1 a (fun y => by
            rcases List.mem_cons.mp y with y | y
            · omega
            · rcases List.mem_cons.mp y with y | y
              · omega
              · rcases List.mem_cons.mp y with y | y
                · omega
                · have := big a y
                  omega)
          have k0 : ∀ k, k ≠ 12 → K 0 k = I1 0 k := fun k hk => by
            rw [lo2 0 (by omega) (by omega) n0]
            exact g2 k hk
          have k18 : K 18 = I1 18 := kk 18 (by omega)
          rcases a with ⟨a1, a2⟩ | ⟨a1, a2, a3, a4⟩
          · refine Or.inl ⟨a1.trans (zSameJ.of_rows (k0 15 (by omega)) (fun b hb => ?_)), (k0 16 (by omega)).trans a2⟩
            refine lo1 b (fun y => ?_)
            rcases List.mem_cons.mp y with y | y
            · omega
            · rcases List.mem_cons.mp y with y | y
              · omega
              · rcases List.mem_cons.mp y with y | y
                · omega
                · have := big b y
                  omega
          · refine Or.inr ⟨(k0 16 (by omega)).trans a1, ?_, ?_, ?_⟩
            · rw [zsj_fr (k0 15 (by omega)) k18]
              exact a2.keep h.1 kk
            · rw [kk 44 (by omega)]
              exact a3
            · rw [kk 52 (by omega)]
              exact a4
        · have e13 : K 84 13 = nI jn := lo3.2.2.2.1.2.2.1
          rw [e13] at no
          exact absurd (Int32.le_refl _) no
      | succ k ih =>
        intro x K hx gm
        obtain ⟨lo1, lo2, lo3⟩ := low K _ gm
        have gm0 := gm
        obtain ⟨m1, m2, m3, m4⟩ := gm
        have e13 : K 84 13 = nI jn := lo3.2.2.2.1.2.2.1
        have xc : (nI x).toNatClampNeg = x := znIc (by omega)
        have r16 : K 16 = I1 16 := by
          rw [lo2 16 (by omega) (by omega) (by decide)]
          exact e16
        have sjK : zsj K jn = zsj I1 jn := by
          rw [zsj_fr (I := I2) (by rw [lo2 0 (by omega) (by omega) (by decide)]) (lo2 18 (by omega) (by omega) (by decide))]
          exact sj2
        have e96 : K 96 x = I1 16 x := by
          have := (lo3.2.2.2.1.2.2.2.1 x (by omega)).2.2.1
          rw [this, r16]
        have r119 : ∀ K', zMo (u2 J 84 90 0) K' (zwz (I1 (27 + 8 * c + 5)) (I1 16) (zfb L1 (27 + 8 * c)) x) ∨ (∃ l, zMo (u2 J 84 90 0) K' l) → K' 119 (48 * c + x) = I1 (27 + 8 * c + 5) x ∧ K' 120 (48 * c + x) = J 120 (48 * c + x) := fun K' y => by
          have : ∃ l, zMo (u2 J 84 90 0) K' l := y.elim (fun q => ⟨_, q⟩) id
          obtain ⟨l, n1, -⟩ := this
          refine ⟨?_, ?_⟩
          · rw [n1 119 (by omega) (by omega), ← u2_row _ _ _ _ (show (119 : Nat) ≠ 84 by omega), m.1 x (by omega), e5]
          · rw [n1 120 (by omega) (by omega), ← u2_row _ _ _ _ (show (120 : Nat) ≠ 84 by omega)]
        have mj := mJnt_0 (v := nI x) lo3.2.1 lo3.2.2.2.1
        rw [sjK] at mj
        have skip : ¬ (¬ I1 (27 + 8 * c + 5) x = -1 ∧ I1 16 x = 0) → ZW G mX12_write fX12_write lX12_write 29 [zo G 84, .int (nI c), .int (nI x + 1)] [] S K L1 0 0 (fun v' S'' I'' L'' => v' = some (.int (I2 0 12)) ∧ S'' = S ∧ (∃ on', iAll S I'' n jn mn tl ln on') ∧ zAft S I L I'' L'' jn) := fun no => by
          rw [nI_1]
          refine ih (x + 1) K (by omega) ?_
          rw [zwz_n no]
          exact gm0
        refine vX12_write_29 h.1 ⟨fun no => ?_, fun _ => ⟨fun _ _ => znIin (by omega) (by omega), fun no => ?_, fun _ => ⟨znIin (by omega) (by omega), ?_⟩⟩⟩
        · rw [e13] at no
          exact absurd no (nI_ge (by omega) (by omega))
        · have hs : zsj I1 jn ≤ x := Classical.byContradiction (fun y => mj.mp no ⟨nI_pos' (by omega), nI_lt (by omega) (by omega)⟩)
          exact skip (fun y => y.1 (pr.2.1 x (by omega) hs))
        · rw [zx48, xc, znIc (show 48 * c + x < 2147483648 by omega), e96, (r119 K (Or.inl gm0)).1]
          refine ⟨fun d => skip (fun y => d y.2), fun d2 => ⟨znIin (by omega) (by omega), fun d1 => ?_, fun d => skip (fun y => y.1 d)⟩⟩
          have r0 := zwz_room A z hc (show x < 48 by omega) ⟨d1, d2⟩ (zfb L1 (27 + 8 * c))
          have r1 := len_dg (v := nI x) r0
          have r2 := len_1 (b := 45) r1
          have r3 := len_dg (v := I1 (27 + 8 * c + 5) x) r2
          have r4 := len_1 (b := 33) r3
          have fz : J 120 (48 * c + x) = 0 ↔ ¬ zfb L1 (27 + 8 * c) x = true := by
            rw [m.2.2.2.2 x (by omega) (by rw [e5]; exact d1)]
            unfold zfb p_X4_isForced
            rw [decide_eq_true_iff, has_iff (show x < 64 by omega)]
            exact ⟨fun y q => q (fun r => y r.2), fun y q => y (fun r => r ⟨by omega, q⟩)⟩
          refine m_putN h.1 gm0 (by omega) (fun K1 k1 => ⟨rfl, rfl, m_put h.1 k1 (by omega) (fun K2 k2 => ⟨rfl, rfl, ?_⟩)⟩)
          rw [(r119 K2 (Or.inr ⟨_, k2⟩)).1]
          refine m_putN h.1 k2 (by omega) (fun K3 k3 => ⟨rfl, rfl, fun f => m_put h.1 k3 (by omega) (fun K4 k4 => ⟨rfl, rfl, ?_⟩), fun f => m_put h.1 k3 (by omega) (fun K4 k4 => ⟨rfl, rfl, m_put h.1 k4 (by omega) (fun K5 k5 => ⟨rfl, rfl, ?_⟩)⟩)⟩)
          · rw [(r119 K3 (Or.inr ⟨_, k3⟩)).2] at f
            rw [nI_1]
            refine ih (x + 1) K4 (by omega) ?_
            rw [zwz_y ⟨d1, d2⟩, ← zpl_0 (fz.mp f)]
            exact k4
          · rw [(r119 K3 (Or.inr ⟨_, k3⟩)).2] at f
            rw [nI_1]
            refine ih (x + 1) K5 (by omega) ?_
            rw [zwz_y ⟨d1, d2⟩, ← zpl_1 (Classical.not_not.mp (fun y => f (fz.mpr y)))]
            exact k5
    refine key jn 0 _ (by omega) ⟨fun _ _ _ => rfl, fun _ _ => rfl, ?_, fun k hk => absurd hk (Nat.not_lt_zero _)⟩
    rw [u2_same]
    rfl
  · obtain ⟨a, b⟩ := told_aft (L := L) h
    exact ZC.of' (vX12_write_0 h.1 ⟨fun q => absurd (isIn_01.mpr (isCu_0.mp c1)) q, fun _ => ⟨rfl, rfl, ⟨on, a⟩, b⟩⟩) rfl (Nat.le_of_ble_eq_true rfl) rfl
