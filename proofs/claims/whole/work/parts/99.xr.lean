/-- the model takes the draft over -/
theorem m_copy {G : Gp} {Q : zPost} {S : zSh} {I0 : zFI} {L : zFL} {c : Nat} {v : Int32} (hS : zStd S) (hc : c ≤ 1) (hv : ¬ v = -1) (q : ∀ J : zFI, (∀ b, b ≠ 105 → J b = I0 b) → (∀ k, k < 50 → J 105 (50 * c + k) = I0 105 (100 + k)) → (∀ k, ¬ (50 * c ≤ k ∧ k < 50 * c + 50) → J 105 k = I0 105 k) → Q (some (.int v)) S J L) : ∀ (d l : Nat) (I : zFI), d + l = 50 → (∀ b, b ≠ 105 → I b = I0 b) → (∀ k, k < l → I 105 (50 * c + k) = I0 105 (100 + k)) → (∀ k, ¬ (50 * c ≤ k ∧ k < 50 * c + 50) → I 105 k = I0 105 k) → ZW G mX12_custom fX12_custom lX12_custom 68 [zo G 84, .int (nI c), .int v, .int (nI l)] [] S I L 0 0 Q := by
  intro d
  induction d with
  | zero =>
    intro l I hl e1 e2 e3
    have l50 : l = 50 := by omega
    subst l50
    exact vX12_custom_68 hS ⟨fun _ => q I e1 e2 e3, fun y => absurd (by decide) y⟩
  | succ d ih =>
    intro l I hl e1 e2 e3
    refine vX12_custom_68 hS ⟨fun y => absurd y (nI_ge (show l < 50 by omega) (by decide)), fun _ => ⟨fun y => absurd y hv, fun _ => ?_⟩⟩
    have ea : (100 : Int32) + nI l = nI (100 + l) := zx50 2 l
    have eb : (50 : Int32) * nI c + nI l = nI (50 * c + l) := zx50 c l
    rw [ea, eb]
    refine ⟨znIin (by omega) (by decide), znIin (by omega) (by decide), ?_⟩
    rw [znIc (show 100 + l < 2147483648 by omega), znIc (show 50 * c + l < 2147483648 by omega), nI_1]
    refine ih (l + 1) _ (by omega) (fun b hb => (u2_row _ _ _ _ hb).symm.trans (e1 b hb)) (fun k hk => ?_) (fun k hk => (u2_ne _ _ _ _ (by omega)).trans (e3 k hk))
    by_cases e : k = l
    · rw [e, u2_same]
      exact e3 _ (by omega)
    · rw [u2_ne _ _ _ _ (by omega)]
      exact e2 k (by omega)
theorem zTp_of {I : zFI} {tl : Nat} (h : iTap I tl) : zTp I (fun k => if k < tl then I 2 k else -1) tl ∧ zTx (fun k => if k < tl then I 2 k else -1) tl := by
  obtain ⟨h1, h2, h3, h4⟩ := h
  have hx : zTx (fun k => if k < tl then I 2 k else -1) tl := ⟨h2, fun k hk => by
    show 0 ≤ (if k < tl then I 2 k else -1) ∧ (if k < tl then I 2 k else -1) ≤ 255
    rw [if_pos hk]
    exact (h4 k hk).2, fun k hk => if_neg (by omega)⟩
  exact ⟨⟨h1, hx, fun k hk => (if_pos hk).symm⟩, hx⟩
/-- behind a new custom -/
def zCp (S : zSh) (I : zFI) (L : zFL) (n jn mn ln on : Nat) (S' : zSh) (I' : zFI) (L' : zFL) : Prop := (zN S' = zN S ∧ zK S' = zK S ∧ zwl S' = zwl S) ∧ (∃ tl, iAll S' I' n jn mn tl ln on) ∧ (I' 0 16 = 1 ∨ (I' 0 16 = I 0 16 ∧ (zJ2 S I L (zsj I jn) → zJ2 S' I' L' (zsj I' jn)) ∧ (zRs S I L → zRs S' I' L')))
/-- all that a new custom leaves -/
theorem cus_all {S S' : zSh} {I J : zFI} {n jn mn tl ln on d : Nat} (h : iAll S I n jn mn tl ln on) (hS' : zStd S') (hd : zCu d) (hr : ∀ b, b ≠ 0 → b ≠ 1 → b ≠ 3 → b ≠ 4 → b ≠ 5 → b ≠ 6 → b ≠ 84 → b ≠ 105 → b ≠ d → J b = I b) (h0 : ∀ k, k ≠ 16 → J 0 k = I 0 k) (h84 : ∀ k, (k < 29 ∨ 36 ≤ k) → k ≠ 0 → k ≠ 26 → k ≠ 36 → k ≠ 37 → J 84 k = I 84 k) (h1 : J 1 1 = 0) (h26 : J 84 26 = 0) (flt : iFlt J) (cus : iCus S' J) : iAll S' J n jn mn 0 ln on ∧ zsj J jn = zsj I jn := by
  obtain ⟨hS, hNow, hTim, hJnt, hMrk, hShn, hTap, hFlt, hCus, hRng, hLea, hOut, hWrd⟩ := h
  have dn : ∀ b, b ≠ 8 → b ≠ 9 → b ≠ 83 → b ≠ d := fun b b1 b2 b3 y => by rcases hd with e | e | e <;> omega
  have hr' : ∀ b, b ∉ [0, 1, 3, 4, 5, 6, 84, 105, 8, 9, 83] → J b = I b := fun b hb => by
    have nm : ∀ x, x ∈ [0, 1, 3, 4, 5, 6, 84, 105, 8, 9, 83] → b ≠ x := fun x hx y => hb (by rw [y]; exact hx)
    exact hr b (nm _ (by decide)) (nm _ (by decide)) (nm _ (by decide)) (nm _ (by decide)) (nm _ (by decide)) (nm _ (by decide)) (nm _ (by decide)) (nm _ (by decide)) (dn b (nm _ (by decide)) (nm _ (by decide)) (nm _ (by decide)))
  clear hr
  have hr := hr'
  have g0 := h0
  clear h0
  have h0 : ∀ k, k ∉ [16] → J 0 k = I 0 k := fun k hk' => g0 k (fun q => hk' (by rw [q]; decide))
  have g84 := h84
  clear h84
  have h84 : ∀ k, k ∉ [0, 26, 29, 30, 31, 32, 33, 34, 35, 36, 37] → J 84 k = I 84 k := fun k hk => by
    have nm : ∀ x, x ∈ [0, 26, 29, 30, 31, 32, 33, 34, 35, 36, 37] → k ≠ x := fun x hx y => hk (by rw [y]; exact hx)
    have n29 := nm 29 (by decide)
    have n30 := nm 30 (by decide)
    have n31 := nm 31 (by decide)
    have n32 := nm 32 (by decide)
    have n33 := nm 33 (by decide)
    have n34 := nm 34 (by decide)
    have n35 := nm 35 (by decide)
    exact g84 k (by omega) (nm _ (by decide)) (nm _ (by decide)) (nm _ (by decide)) (nm _ (by decide))
  refine ⟨⟨hS', hNow.fr (h0 14 (by decide)) (h0 15 (by decide)) (h84 1 (by decide)) (h84 2 (by decide)), hTim.fr (by rw [h0 14 (by decide)]; exact Int32.le_refl _) (congrFun (hr 10 (by decide)) 0) (h84 3 (by decide)) (hr 11 (by decide)) (hr 12 (by decide)) (hr 13 (by decide)) (hr 85 (by decide)) (hr 86 (by decide)) (hr 87 (by decide)), hJnt.fr (Int32.le_refl _) (by rw [h0 14 (by decide)]; exact Int32.le_refl _) (congrFun (hr 10 (by decide)) 4) (h84 13 (by decide)) (hr 14 (by decide)) (hr 15 (by decide)) (hr 16 (by decide)) (hr 17 (by decide)) (hr 18 (by decide)) (hr 94 (by decide)) (hr 95 (by decide)) (hr 96 (by decide)) (hr 97 (by decide)) (hr 98 (by decide)) (hr 88 (by decide)), hMrk.fr (Int32.le_refl _) (by rw [h0 14 (by decide)]; exact Int32.le_refl _) (congrFun (hr 19 (by decide)) 0) (h84 19 (by decide)) (hr 20 (by decide)) (hr 21 (by decide)) (hr 22 (by decide)) (hr 23 (by decide)) (hr 24 (by decide)) (hr 99 (by decide)) (hr 100 (by decide)) (hr 101 (by decide)) (hr 102 (by decide)) (hr 103 (by decide)), hShn.fr (by unfold p_X11_lastDaySeen; rw [h0 15 (by decide)]) (hr 20 (by decide)) (hr 21 (by decide)) (hr 25 (by decide)), ⟨h1, Nat.zero_le _, h26, fun k hk => absurd hk (by omega)⟩, flt, cus, hRng.fr (by rw [h0 14 (by decide)]; exact Int32.le_refl _) (hr 68 (by decide)) (hr 69 (by decide)) (hr 70 (by decide)) (hr 71 (by decide)) (hr 72 (by decide)) (hr 73 (by decide)) (hr 89 (by decide)) (hr 90 (by decide)) (hr 91 (by decide)) (hr 92 (by decide)) (hr 93 (by decide)) (hr 131 (by decide)) (hr 132 (by decide)), hLea.fr (Int32.le_refl _) (by rw [h0 14 (by decide)]; exact Int32.le_refl _) (congrFun (hr 77 (by decide)) 0) (h84 79 (by decide)) (hr 78 (by decide)) (hr 79 (by decide)) (hr 80 (by decide)) (hr 81 (by decide)) (hr 134 (by decide)) (hr 135 (by decide)) (hr 136 (by decide)) (hr 137 (by decide)), hOut.fr (h0 12 (by decide)) (h84 90 (by decide)) (hr 82 (by decide)) (hr 138 (by decide)), hWrd.fr (hr 106 (by decide))⟩, ?_⟩
  exact zsj_fr (h0 15 (by decide)) (hr 18 (by decide)) jn
theorem iCu1.fr2 {I J : zFI} {r c : Nat} (h : iCu1 I r c) (e : J r = I r) (e5 : ∀ k, k < 50 → J 105 (50 * c + k) = I 105 (50 * c + k)) : iCu1 J r c := by
  obtain ⟨a, b⟩ := h
  obtain ⟨b0, b1, b2, b3, b4, b5, b6, b7, b8, b9, b10, b11, b12, b13, b14, b15, b16, b17, b18⟩ := b
  refine ⟨fun k hk => ?_, ?_⟩
  · rw [e5 k (by omega), e]; exact a k hk
  · rw [e]
    refine ⟨b0, b1, b2, b3, b4, b5, b6, b7, b8, b9, b10, b11, b12, b13, b14, b15, b16, fun k hk => ?_, fun k hk => ?_⟩
    · rw [show 50 * c + 10 + k = 50 * c + (10 + k) by omega, e5 (10 + k) (by omega), show 50 * c + (10 + k) = 50 * c + 10 + k by omega]; exact b17 k hk
    · rw [show 50 * c + 30 + k = 50 * c + (30 + k) by omega, e5 (30 + k) (by omega), show 50 * c + (30 + k) = 50 * c + 30 + k by omega]; exact b18 k hk
theorem iCu1_new {F J : zFI} {d c : Nat} {R : Nat → Int32} (h : zMr J R) (g : zRg_ R) (e5 : ∀ k, k < 50 → F 105 (50 * c + k) = J 105 (100 + k)) (er : ∀ k, k < 11 → F d k = R k) : iCu1 F d c := by
  obtain ⟨h1, h2, h3⟩ := h
  refine ⟨fun k hk => by rw [e5 k (by omega), er k (by omega)]; exact h1 k hk, ?_⟩
  rw [er 0 (by omega), er 1 (by omega), er 2 (by omega), er 3 (by omega), er 4 (by omega), er 5 (by omega), er 6 (by omega), er 7 (by omega), er 8 (by omega), er 9 (by omega), er 10 (by omega)]
  obtain ⟨a0, b0, a1, a2, b2, a3, b3, a4, b4, a5, b5, a6, b6, a7, b7, a8, b8⟩ := g
  refine ⟨a0, b0, a1, a2, b2, a3, b3, a4, b4, a5, b5, a6, b6, a7, b7, a8, b8, fun k hk => ?_, fun k hk => ?_⟩
  · rw [show 50 * c + 10 + k = 50 * c + (10 + k) by omega, e5 (10 + k) (by omega), show 100 + (10 + k) = 110 + k by omega]; exact h2 k hk
  · rw [show 50 * c + 30 + k = 50 * c + (30 + k) by omega, e5 (30 + k) (by omega), show 100 + (30 + k) = 130 + k by omega]; exact h3 k hk
theorem op_custom {G : Gp} {S : zSh} {I : zFI} {L : zFL} {n jn mn tl ln on : Nat} {v1 : Int32} (h : iAll S I n jn mn tl ln on) : zOpI G mX11_custom fX11_custom lX11_custom mX12_custom fX12_custom lX12_custom [.int v1] S I L 0 0 (fun S' I' L' => zCp S I L n jn mn ln on S' I' L') := by
  have hA := h
  obtain ⟨hS, hNow, hTim, hJnt, hMrk, hShn, hTap, hFlt, hCus, hRng, hLea, hOut, hWrd⟩ := h
  obtain ⟨tp, tx⟩ := zTp_of hTap
  have p3 := hS.p3
  have ddr := hS.dr.2
  generalize eT : (fun k => if k < tl then I 2 k else (-1 : Int32)) = T at tp tx
  have tm : ∀ J : zFI, J 84 26 = I 84 26 → J 104 = I 104 → zTm_ J T tl := fun J j1 j2 => ⟨j1.trans hTap.2.2.1, tx, fun k hk => by
    rw [j2, (hTap.2.2.2 k hk).1, ← eT]
    exact (if_pos hk).symm⟩
  have gl := @zal_rg T 40 0 0 zR0_ zRg_0
  refine ZC.of' (vX11_custom_s hS ⟨fun c0 => ?_, fun c0 => ?_⟩) rfl (Nat.le_of_ble_eq_true rfl) rfl
  · rw [isCu_0] at c0
    refine ⟨_, rfl, ZC.of' (vX12_custom_0 hS ⟨fun q => absurd (isIn_01.mpr c0) q, fun _ => ⟨rfl, ⟨rfl, rfl, rfl⟩, ?_⟩⟩) rfl (Nat.le_of_ble_eq_true rfl) rfl⟩
    have row : ∀ b, b ≠ 1 → b ≠ 84 → (u2 (u2 (u2 I 1 1 0) 84 0 0) 84 26 0) b = I b := fun b b1 b2 => by rw [← u2_row _ _ _ _ b2, ← u2_row _ _ _ _ b2, ← u2_row _ _ _ _ b1]
    have r84 : ∀ k, k ≠ 0 → k ≠ 26 → (u2 (u2 (u2 I 1 1 0) 84 0 0) 84 26 0) 84 k = I 84 k := fun k k1 k2 => by rw [u2_ne _ _ _ _ (fun y => k2 y.2), u2_ne _ _ _ _ (fun y => k1 y.2), ← u2_row _ _ _ _ (by decide)]
    have r1 : (u2 (u2 (u2 I 1 1 0) 84 0 0) 84 26 0) 1 1 = 0 := by rw [← u2_row _ _ _ _ (by decide), ← u2_row _ _ _ _ (by decide), u2_same]
    have r26 : (u2 (u2 (u2 I 1 1 0) 84 0 0) 84 26 0) 84 26 = 0 := u2_same _ _ _ _
    generalize u2 (u2 (u2 I 1 1 0) 84 0 0) 84 26 0 = F at row r84 r1 r26
    obtain ⟨w1, w2⟩ := cus_all hA hS ddr (fun b _ b1 _ _ _ _ b2 _ _ => row b b1 b2) (fun k _ => by rw [row 0 (by decide) (by decide)]) (fun k _ k0 k26 _ _ => r84 k k0 k26) r1 r26 ⟨by rw [r84 36 (by decide) (by decide), row 3 (by decide) (by decide)]; exact hFlt.1, by rw [r84 37 (by decide) (by decide), row 3 (by decide) (by decide)]; exact hFlt.2⟩ (hCus.fr hS (row 8 (by decide) (by decide)) (row 9 (by decide) (by decide)) (row 83 (by decide) (by decide)) (row 105 (by decide) (by decide)))
    have rc : ∀ r, zCu r → F r = I r := fun r hr => by rcases hr with rfl | rfl | rfl <;> exact row _ (by decide) (by decide)
    exact ⟨⟨0, w1⟩, Or.inr ⟨by rw [row 0 (by decide) (by decide)], fun z => by rw [w2]; exact z.row1 (rc _ p3.1) (rc _ p3.2.1) (fun a a1 a2 => row a (by omega) (by omega)), fun z => z.row1 (fun x hx => rc _ (hS.rl hx).2) (fun a a1 a2 => row a (by omega) (by omega))⟩⟩
  · rw [isCu_0, Classical.not_not] at c0
    have c0' : ¬ p_X12_isIn v1 0 1 = 0 := fun q => isIn_01.mp q c0
    have hS' := zSw_std hS c0
    refine ⟨c0, c_parse hS tp ddr (fun J hJ => ⟨_, rfl, rfl, ?_⟩)⟩
    obtain ⟨gl1, gl2⟩ := gl
    have nl : ¬ nI (zal_ (zTK T) (zTV T) 40 0 0 zR0_).2 = -1 := nI_neg1 (by omega)
    have mr : ∀ {Q : zPost} {S : zSh} {I : zFI} {L : zFL}, zStd S → zTm_ I T tl → iWrd I → _ := fun {Q} {S} {I} {L} a b c => @m_reads G Q S I L T tl a b c
    revert hJ gl1 gl2 nl mr
    generalize zal_ (zTK T) (zTV T) 40 0 0 zR0_ = x
    obtain ⟨⟨f, m, R⟩, l⟩ := x
    intro hJ gl1 gl2 nl mr
    generalize ed : zdr S = d at hJ p3 ddr
    have dn : d ≠ 84 ∧ d ≠ 105 ∧ d ≠ 0 ∧ d ≠ 1 ∧ d ≠ 3 := by
      rcases ddr with e | e | e <;> subst e <;> decide
    have dk : ∀ b, b ≠ 8 → b ≠ 9 → b ≠ 83 → b ≠ d := fun b b1 b2 b3 y => by
      rcases ddr with e | e | e <;> omega
    have j84 : J 84 = I 84 := hJ.1 84 (by decide) (by decide) (by decide) (by decide) dn.1.symm
    have jr : ∀ b, b ≠ 3 → b ≠ 4 → b ≠ 5 → b ≠ 6 → b ≠ d → J b = I b := hJ.1
    refine ⟨fun rr => ?_, fun rr => ?_⟩
    · have f0 : ¬ f = 0 := fun y => by
        rw [if_pos y] at rr
        exact nl rr
      obtain ⟨f3, j5, j6⟩ := hJ.2.2 f0
      generalize eI1 : u2 (u2 J 1 1 0) 84 0 0 = I1
      have a1 : ∀ b, b ≠ 1 → b ≠ 84 → I1 b = J b := fun b b1 b2 => by rw [← eI1, ← u2_row _ _ _ _ b2, ← u2_row _ _ _ _ b1]
      have a84 : ∀ k, k ≠ 0 → I1 84 k = I 84 k := fun k k0 => by rw [← eI1, u2_ne _ _ _ _ (fun y => k0 y.2), ← u2_row _ _ _ _ (by decide), j84]
      have a11 : I1 1 1 = 0 := by rw [← eI1, ← u2_row _ _ _ _ (by decide), u2_same]
      refine ⟨_, rfl, ZC.of' (vX12_custom_0 hS ⟨fun _ => ?_, fun y => absurd y c0'⟩) rfl (Nat.le_of_ble_eq_true rfl) rfl⟩
      rw [eI1]
      refine mr hS (tm I1 (a84 26 (by decide)) (by rw [a1 104 (by decide) (by decide)]; exact jr 104 (by decide) (by decide) (by decide) (by decide) (dk 104 (by decide) (by decide) (by decide)))) (fun k hk => by rw [a1 106 (by decide) (by decide), jr 106 (by decide) (by decide) (by decide) (by decide) (dk 106 (by decide) (by decide) (by decide))]; exact hWrd k hk) (fun J2 h2 => ⟨_, rfl, rfl, ?_⟩)
      rw [if_neg f0]
      refine ⟨fun y => absurd rfl y, fun _ => ⟨fun y => absurd rfl y, fun _ => ?_⟩⟩
      refine vX12_custom_68 hS ⟨fun y => absurd y (by decide), fun _ => ⟨fun _ => ?_, fun y => absurd rfl y⟩⟩
      obtain ⟨b1, b2, b3, b4, b5⟩ := h2
      obtain ⟨-, m34, m35⟩ := b5 f0
      generalize eF : u2 (u2 (u2 J2 84 26 0) 84 36 (J2 84 34)) 84 37 (J2 84 35) = F
      have row : ∀ b, b ≠ 84 → b ≠ 105 → F b = I1 b := fun b c1 c2 => by rw [← eF, ← u2_row _ _ _ _ c1, ← u2_row _ _ _ _ c1, ← u2_row _ _ _ _ c1]; exact b1 b c1 c2
      have rowI : ∀ b, b ≠ 1 → b ≠ 3 → b ≠ 4 → b ≠ 5 → b ≠ 6 → b ≠ 84 → b ≠ 105 → b ≠ d → F b = I b := fun b x1 x3 x4 x5 x6 x84 x105 xd => by rw [row b x84 x105, a1 b x1 x84]; exact jr b x3 x4 x5 x6 xd
      have r105 : ∀ k, k < 100 → F 105 k = I 105 k := fun k hk => by
        rw [← eF, ← u2_row _ _ _ _ (by decide), ← u2_row _ _ _ _ (by decide), ← u2_row _ _ _ _ (by decide), b3 k hk, a1 105 (by decide) (by decide), jr 105 (by decide) (by decide) (by decide) (by decide) dn.2.1.symm]
      have r84 : ∀ k, k < 29 ∨ 36 ≤ k → k ≠ 0 → k ≠ 26 → k ≠ 36 → k ≠ 37 → F 84 k = I 84 k := fun k hk k0 k1 k2 k3 => by
        rw [← eF, u2_ne _ _ _ _ (fun y => k3 y.2), u2_ne _ _ _ _ (fun y => k2 y.2), u2_ne _ _ _ _ (fun y => k1 y.2), b2 k hk, a84 k k0]
      have F3 : F 3 = J 3 := by rw [row 3 (by decide) (by decide), a1 3 (by decide) (by decide)]
      have rc : ∀ r, zCu r → r ≠ d → F r = I r := fun r hr xd => by rcases hr with rfl | rfl | rfl <;> exact rowI _ (by decide) (by decide) (by decide) (by decide) (by decide) (by decide) (by decide) xd
      obtain ⟨w1, w2⟩ := cus_all (J := F) hA hS ddr (fun b x0 x1 x3 x4 x5 x6 x84 x105 xd => rowI b x1 x3 x4 x5 x6 x84 x105 xd) (fun k _ => by rw [rowI 0 (by decide) (by decide) (by decide) (by decide) (by decide) (by decide) (by decide) dn.2.2.1.symm]) r84 (by rw [row 1 (by decide) (by decide)]; exact a11) (by rw [← eF, u2_ne _ _ _ _ (by decide), u2_ne _ _ _ _ (by decide), u2_same])
        ⟨by rw [F3, j5, ← eF, u2_ne _ _ _ _ (by decide), u2_same]; exact m34, by rw [F3, j6, ← eF, u2_same]; exact m35⟩
        ⟨hCus.1.fr2 (rc _ p3.1 p3.2.2.2.2.1) (fun k hk => r105 _ (by omega)), hCus.2.fr2 (rc _ p3.2.1 p3.2.2.2.2.2) (fun k hk => r105 _ (by omega))⟩
      have mid : ∀ a, 10 ≤ a → a ≤ 66 → F a = I a := fun a x1 x2 => rowI a (by omega) (by omega) (by omega) (by omega) (by omega) (by omega) (by omega) (dk a (by omega) (by omega) (by omega))
      exact ⟨rfl, ⟨rfl, rfl, rfl⟩, ⟨0, w1⟩, Or.inr ⟨by rw [rowI 0 (by decide) (by decide) (by decide) (by decide) (by decide) (by decide) (by decide) dn.2.2.1.symm], fun z => by rw [w2]; exact z.row1 (rc _ p3.1 p3.2.2.2.2.1) (rc _ p3.2.1 p3.2.2.2.2.2) mid, fun z => z.row1 (fun x hx => by
        rcases hx with rfl | rfl
        · exact rc _ p3.1 p3.2.2.2.2.1
        · exact rc _ p3.2.1 p3.2.2.2.2.2) mid⟩⟩
    · have f0 : f = 0 := Classical.byContradiction (fun y => rr (if_neg y))
      subst f0
      obtain ⟨j5, j6, jd⟩ := hJ.2.1 rfl
      rw [if_pos rfl]
      obtain ⟨c, hc, hv⟩ : ∃ c : Nat, c ≤ 1 ∧ v1 = nI c := by
        rcases c0 with rfl | rfl
        · exact ⟨0, by omega, rfl⟩
        · exact ⟨1, by omega, rfl⟩
      generalize eI1 : u2 (u2 (u2 J 1 1 0) 0 16 1) 84 0 0 = I1
      have a1 : ∀ b, b ≠ 0 → b ≠ 1 → b ≠ 84 → I1 b = J b := fun b b0 b1 b2 => by rw [← eI1, ← u2_row _ _ _ _ b2, ← u2_row _ _ _ _ b0, ← u2_row _ _ _ _ b1]
      have a84 : ∀ k, k ≠ 0 → I1 84 k = I 84 k := fun k k0 => by rw [← eI1, u2_ne _ _ _ _ (fun y => k0 y.2), ← u2_row _ _ _ _ (by decide), ← u2_row _ _ _ _ (by decide), j84]
      have a11 : I1 1 1 = 0 := by rw [← eI1, ← u2_row _ _ _ _ (by decide), ← u2_row _ _ _ _ (by decide), u2_same]
      have a016 : I1 0 16 = 1 := by rw [← eI1, ← u2_row _ _ _ _ (by decide), u2_same]
      have a0 : ∀ k, k ≠ 16 → I1 0 k = I 0 k := fun k hk => by rw [← eI1, ← u2_row _ _ _ _ (by decide), u2_ne _ _ _ _ (fun y => hk y.2), ← u2_row _ _ _ _ (by decide), jr 0 (by decide) (by decide) (by decide) (by decide) dn.2.2.1.symm]
      refine ⟨_, rfl, ZC.of' (vX12_custom_0 hS' ⟨fun _ => ?_, fun y => absurd y c0'⟩) rfl (Nat.le_of_ble_eq_true rfl) rfl⟩
      rw [eI1]
      refine mr hS' (tm I1 (a84 26 (by decide)) (by rw [a1 104 (by decide) (by decide) (by decide)]; exact jr 104 (by decide) (by decide) (by decide) (by decide) (dk 104 (by decide) (by decide) (by decide)))) (fun k hk => by rw [a1 106 (by decide) (by decide) (by decide), jr 106 (by decide) (by decide) (by decide) (by decide) (dk 106 (by decide) (by decide) (by decide))]; exact hWrd k hk) (fun J2 h2 => ⟨_, rfl, rfl, ?_⟩)
      rw [if_pos rfl]
      refine ⟨fun _ => ⟨fun _ => ?_, fun y => absurd y nl⟩, fun y => absurd y nl⟩
      subst hv
      obtain ⟨b1, b2, b3, b4, b5⟩ := h2
      have zr := b4 rfl
      refine m_copy (I0 := u2 (u2 (u2 J2 84 26 0) 84 36 0) 84 37 (-1)) hS' hc nl (fun F f1 f2 f3 => ?_) 50 0 _ rfl (fun _ _ => rfl) (fun k hk => absurd hk (by omega)) (fun _ _ => rfl)
      have g105 : ∀ k, (u2 (u2 (u2 J2 84 26 0) 84 36 0) 84 37 (-1)) 105 k = J2 105 k := fun k => by rw [← u2_row _ _ _ _ (by decide), ← u2_row _ _ _ _ (by decide), ← u2_row _ _ _ _ (by decide)]
      have row : ∀ b, b ≠ 84 → b ≠ 105 → F b = I1 b := fun b c1 c2 => by rw [f1 b c2, ← u2_row _ _ _ _ c1, ← u2_row _ _ _ _ c1, ← u2_row _ _ _ _ c1]; exact b1 b c1 c2
      have rowI : ∀ b, b ≠ 0 → b ≠ 1 → b ≠ 3 → b ≠ 4 → b ≠ 5 → b ≠ 6 → b ≠ 84 → b ≠ 105 → b ≠ d → F b = I b := fun b x0 x1 x3 x4 x5 x6 x84 x105 xd => by rw [row b x84 x105, a1 b x0 x1 x84]; exact jr b x3 x4 x5 x6 xd
      have r84 : ∀ k, k < 29 ∨ 36 ≤ k → k ≠ 0 → k ≠ 26 → k ≠ 36 → k ≠ 37 → F 84 k = I 84 k := fun k hk k0 k1 k2 k3 => by
        rw [f1 84 (by decide), u2_ne _ _ _ _ (fun y => k3 y.2), u2_ne _ _ _ _ (fun y => k2 y.2), u2_ne _ _ _ _ (fun y => k1 y.2), b2 k hk, a84 k k0]
      have F3 : F 3 = J 3 := by rw [row 3 (by decide) (by decide), a1 3 (by decide) (by decide) (by decide)]
      have rc : ∀ r, zCu r → r ≠ d → F r = I r := fun r hr xd => by rcases hr with rfl | rfl | rfl <;> exact rowI _ (by decide) (by decide) (by decide) (by decide) (by decide) (by decide) (by decide) (by decide) xd
      have Fd : ∀ k, k < 11 → F d k = R k := fun k hk => by rw [row d dn.1 dn.2.1, a1 d dn.2.2.1 dn.2.2.2.1 dn.1]; exact jd k hk
      have old : ∀ c' r, c' ≤ 1 → c' ≠ c → zCu r → r ≠ d → iCu1 I r c' → iCu1 F r c' := fun c' r h1 h2 h3 h4 h5 => h5.fr2 (rc r h3 h4) (fun k hk => by
        rw [f3 _ (by omega), g105, b3 _ (by omega), a1 105 (by decide) (by decide) (by decide), jr 105 (by decide) (by decide) (by decide) (by decide) dn.2.1.symm])
      have new : iCu1 F d c := iCu1_new zr (gl2 rfl) (fun k hk => by rw [f2 k hk, g105]) Fd
      have cus : iCus (zSw S (nI c)) F := by
        rcases (by omega : c = 0 ∨ c = 1) with e | e
        · subst e
          refine ⟨?_, ?_⟩
          · rw [zSw_rl c0 (Or.inl rfl), if_pos (by decide), ed]; exact new
          · rw [zSw_rl c0 (Or.inr rfl), if_neg (by decide)]; exact old 1 _ (by omega) (by omega) p3.2.1 p3.2.2.2.2.2 hCus.2
        · subst e
          refine ⟨?_, ?_⟩
          · rw [zSw_rl c0 (Or.inl rfl), if_neg (by decide)]; exact old 0 _ (by omega) (by omega) p3.1 p3.2.2.2.2.1 hCus.1
          · rw [zSw_rl c0 (Or.inr rfl), if_pos (by decide), ed]; exact new
      obtain ⟨w1, w2⟩ := cus_all (J := F) hA hS' ddr (fun b x0 x1 x3 x4 x5 x6 x84 x105 xd => rowI b x0 x1 x3 x4 x5 x6 x84 x105 xd) (fun k hk => by rw [row 0 (by decide) (by decide)]; exact a0 k hk) r84 (by rw [row 1 (by decide) (by decide)]; exact a11) (by rw [f1 84 (by decide), u2_ne _ _ _ _ (by decide), u2_ne _ _ _ _ (by decide), u2_same])
        ⟨by rw [F3, j5, f1 84 (by decide), u2_ne _ _ _ _ (by decide), u2_same], by rw [F3, j6, f1 84 (by decide), u2_same]⟩ cus
      exact ⟨rfl, ⟨rfl, rfl, rfl⟩, ⟨0, w1⟩, Or.inl (by rw [row 0 (by decide) (by decide)]; exact a016)⟩
