theorem op_forced {G : Gp} {S : zSh} {I : zFI} {L : zFL} {n jn mn tl ln on : Nat} {v1 v2 : Int32} (h : iAll S I n jn mn tl ln on) (hJ : I 0 16 = 0 → zJ2 S I L (zsj I jn)) : zOpI G mX11_forced fX11_forced lX11_forced mX12_forced fX12_forced lX12_forced [.int v1, .int v2] S I L 0 0 (fun S' I' L' => S' = S ∧ iAll S I' n jn mn tl ln on ∧ zAft S I L I' L' jn) := by
  have hA := h
  obtain ⟨hS, hNow, hTim, hJnt, hMrk, hShn, hTap, hFlt, hCus, hRng, hLea, hOut, hWrd⟩ := h
  refine ZC.of' (vX11_forced_0 hS ⟨fun c1 => ⟨_, rfl, ?_⟩, fun c1 => ?_⟩) rfl (Nat.le_of_ble_eq_true rfl) rfl
  · have ncv := isCu_0.mp c1
    exact ZC.of' (vX12_forced_0 hS ⟨fun _ => ⟨rfl, rfl, told_aft hA⟩, fun q => absurd (Classical.not_not.mp (fun y => q (isIn_01.mpr y))) ncv⟩) rfl (Nat.le_of_ble_eq_true rfl) rfl
  have cu := Classical.not_not.mp (fun q => c1 (isCu_0.mpr q))
  obtain ⟨c, hc, e1⟩ := of_01 cu
  refine c_isJoint hS hJnt (fun x hx e2 => ⟨_, rfl, rfl, fun _ => ?_, fun q => absurd q (by decide)⟩) (fun c0 => ⟨_, rfl, rfl, fun q => absurd rfl q, fun _ => ⟨_, rfl, ?_⟩⟩)
  · refine c_fresh hA hJ (fun I1 L1 A w z a => ⟨rfl, rfl, cu, ?_⟩)
    have hx : x < zsj I1 jn := by rw [w.sj]; exact hx
    have h48 := A.2.2.2.1.2.1
    have sl := zsj_le I1 jn
    have e3 : p_X4_partnerOf I1 (zjid v1) v2 = I1 (27 + 8 * c + 5) x := by
      rw [e1, zjid_c hc, e2]
      exact pick_in (by omega) (by omega)
    rw [e3]
    have m : ∀ {Q : zPost}, (∀ J, zScrd I1 J → zMj I1 L1 J c (27 + 8 * c) jn → (¬ I1 (27 + 8 * c + 5) x = -1 → (¬ zhas (L1 (27 + 8 * c) 8) x → Q (some (.int 0)) S J L1) ∧ (zhas (L1 (27 + 8 * c) 8) x → Q (some (.int 1)) S J L1)) ∧ (I1 (27 + 8 * c + 5) x = -1 → Q (some (.int (-1))) S J L1)) → ZC G mX12_forced fX12_forced lX12_forced [zo G 84, .int v1, .int v2] S I1 L1 0 0 Q := fun {Q} k => by
      rw [e1, e2]
      refine ZC.of' (vX12_forced_0 hS ⟨fun q => absurd (nI_01 hc) (isIn_01.mp q), fun _ => ⟨vp_jt A.2.2.2.1, fun _ => m_joinsTold A hc z (fun J w m => ⟨rfl, rfl, ?_, ?_⟩), fun q => absurd q (jt_yes A hx)⟩⟩) rfl (Nat.le_of_ble_eq_true rfl) rfl
      · rw [zx48]
        exact znIin (by omega) (by omega)
      · have k := k J w m
        rw [zx48, znIc (by omega), m.1 x (by omega)]
        refine ⟨fun no => ⟨fun y => (k.1 no).1 ((m.2.2.2.2 x (by omega) no).mp y), fun y => (k.1 no).2 ?_⟩, fun y => k.2 y⟩
        exact Classical.not_not.mp (fun y' => y ((m.2.2.2.2 x (by omega) no).mpr y'))
    have hz : p_X4_isForced L1 (zjid v1) v2 = 0 ↔ ¬ zhas (L1 (27 + 8 * c) 8) x := by
      rw [e1, e2, zjid_c hc]
      unfold p_X4_isForced
      exact (has_iff (v := L1 (27 + 8 * c) 8) (x := x) (by omega)).trans ⟨fun y z => y ⟨by omega, z⟩, fun y z => y z.2⟩
    refine ⟨fun no => ⟨cu, fun f => ?_, fun f => ?_⟩, fun e => ?_⟩
    · refine ⟨_, rfl, m (fun J w m => ⟨fun _ => ⟨fun _ => ⟨rfl, rfl, a.scr A w⟩, fun y => absurd y (hz.mp f)⟩, fun y => absurd y no⟩)⟩
    · refine ⟨_, rfl, m (fun J w m => ⟨fun _ => ⟨fun y => absurd (hz.mpr y) f, fun _ => ⟨rfl, rfl, a.scr A w⟩⟩, fun y => absurd y no⟩)⟩
    · refine ⟨_, rfl, m (fun J w m => ⟨fun y => absurd e y, fun _ => ⟨rfl, rfl, a.scr A w⟩⟩)⟩
  · refine ZC.of' (vX12_forced_0 hS ⟨fun _ => ⟨rfl, rfl, told_aft hA⟩, fun q => ⟨vp_jt hJnt, fun y => ?_, fun _ => ⟨rfl, rfl, told_aft hA⟩⟩⟩) rfl (Nat.le_of_ble_eq_true rfl) rfl
    exact absurd (jt_no hA c0) y
/-- the model's frames of custom c, after its joins -/
theorem m_framesOf {G : Gp} {S : zSh} {I : zFI} {L : zFL} {n jn mn tl ln on : Nat} {Q : zPost} {c : Nat} {I0 : zFI} (h : iAll S I n jn mn tl ln on) (hc : c ≤ 1) (hJ : zJ2 S I0 L (zsj I0 jn)) (w : zScrd I0 I) (m : zMj I0 L I c (27 + 8 * c) jn)
    (q : ∀ I', (∀ b, b ≠ 84 → b ≠ 124 → b ≠ 125 → I' b = I b) → (∀ k, k ≠ 64 → I' 84 k = I 84 k) → zMg I' (I0 (44 + 8 * c + 1)) → (∀ a, a < 16 → ¬ I0 (44 + 8 * c + 1) a = 0 → I' 124 a = I0 (44 + 8 * c + 1) a) → Q none S I' L) : ZC G mX12_findFrames fX12_findFrames lX12_findFrames [zo G 84, .int (nI c)] S I L 0 0 Q := by
  have hA := h
  obtain ⟨hS, hNow, hTim, hJnt, hMrk, hShn, hTap, hFlt, hCus, hRng, hLea, hOut, hWrd⟩ := h
  have h48 := hJnt.2.1
  have sl := zsj_le I jn
  have r0 := (hS.rl (x := 0) (Or.inl rfl)).2
  have r1 := (hS.rl (x := 1) (Or.inr rfl)).2
  have z := hJ.scr hS w
  have sj := w.sj jn
  rw [← sj] at hJ z
  have e5 : I (27 + 8 * c + 5) = I0 (27 + 8 * c + 5) := w.1 _ (fun q => by
    have : ∀ x, x ∈ zScr → 67 ≤ x := by decide
    have := this _ q
    omega)
  have e1 : I (44 + 8 * c + 1) = I0 (44 + 8 * c + 1) := w.1 _ (fun q => by
    have : ∀ x, x ∈ zScr → 67 ≤ x := by decide
    have := this _ q
    omega)
  have key : zPrt (I 14) (I (27 + 8 * c + 5)) ∧ (∀ x, x < 48 → zsj I jn ≤ x → I (27 + 8 * c + 5) x = -1) ∧ zMt (I 14) (I (27 + 8 * c + 5)) 48 (I (44 + 8 * c + 1)) := by
    obtain ⟨⟨⟨M0, g0⟩, f0⟩, ⟨⟨M1, g1⟩, f1⟩, -⟩ := z
    rcases (by omega : c = 0 ∨ c = 1) with e | e
    · rw [e]
      have := zPrt_of hTim hJnt hCus.1 sl g0.1.1.1 g0.2.1
      exact ⟨this.1, this.2, f0.1⟩
    · rw [e]
      have := zPrt_of hTim hJnt hCus.2 sl g1.1.1.1 g1.2.1
      exact ⟨this.1, this.2, f1.1⟩
  rw [← e1] at q
  exact m_findFrames hA hc key.1 key.2.2 (fun x hx => by rw [m.1 x (by omega), e5]) key.2.1 q
theorem zScrd.fr {I J : zFI} (h : ∀ b, b ≠ 84 → b ≠ 124 → b ≠ 125 → J b = I b) (h2 : ∀ k, k ≠ 64 → J 84 k = I 84 k) : zScrd I J :=
  ⟨fun b hb => h b (fun q => hb (by rw [q]; decide)) (fun q => hb (by rw [q]; decide)) (fun q => hb (by rw [q]; decide)), by rw [h 77 (by decide) (by decide) (by decide)], fun k hk => h2 k (fun q => by rw [q] at hk; exact absurd hk (by decide))⟩
