/-! what the raised frames hold -/
def zRs (S : zSh) (I : zFI) (L : zFL) : Prop := ∀ c g, c ≤ 1 → g < 8 → zb (I (44 + 8 * c) 5) g → ∃ t, t < 16 ∧ zst (I (44 + 8 * c + 1)) t = true ∧ zcnt (zst (I (44 + 8 * c + 1))) t = g ∧
  zRf I L (44 + 8 * c) g (I (44 + 8 * c + 1)) (zbb (zcm (I (44 + 8 * c + 1)) t)) (zAh I (zrl S (nI c))) (I (zrl S (nI c)) 3)
theorem zRs.fr {S S' : zSh} {I J : zFI} {L M : zFL} (h : zRs S I L) (hS : zStd S) (rl : ∀ x, zrl S' x = zrl S x) (e : ∀ a, 44 ≤ a → a ≤ 59 → J a = I a) (er : ∀ r, zCu r → J r = I r) (el : ∀ a, 44 ≤ a → a ≤ 59 → M a = L a)
    (k : ∀ c t x, c ≤ 1 → t < 16 → x < 16 → zst (I (44 + 8 * c + 1)) t = true → zb (zcm (I (44 + 8 * c + 1)) t) x → J 11 x = I 11 x) : zRs S' J M := fun c g hc hg b => by
  rw [e (44 + 8 * c) (by omega) (by omega)] at b
  obtain ⟨t, t1, t2, t3, t4⟩ := h c g hc hg b
  have r := (hS.rl (nI_01 hc)).2
  refine ⟨t, t1, ?_⟩
  rw [e (44 + 8 * c + 1) (by omega) (by omega), rl, er _ r]
  refine ⟨t2, t3, ?_⟩
  unfold zRf at t4 ⊢
  rw [e (44 + 8 * c + 5) (by omega) (by omega), e (44 + 8 * c + 7) (by omega) (by omega), el (44 + 8 * c + 6) (by omega) (by omega)]
  refine zRt_congr t4 (fun _ _ => rfl) (fun _ _ _ => rfl) (fun a b a1 b1 a2 b2 => ?_)
  unfold zAh
  rw [ah_row (er _ r), k c t a hc t1 a1 t2 (zbb_iff.mp a2), k c t b hc t1 b1 t2 (zbb_iff.mp b2)]
section
variable {mt : Nat → Int32}
theorem zmem_mate (hsym : ∀ a k, a < 16 → zb (mt a) k → zb (mt k) a) {t x : Nat} (ht : t < 16) (hx : x < 32) (hst : zst mt t = true) (q : zb (zcm mt t) x) : ¬ mt x = 0 :=
  zcm_in (mt := mt) (D := fun y => ¬ mt y = 0) (fun a ha _ k hk y z => by
    have := hsym a k ha y
    rw [z] at this
    exact zb_0 a this) ht (zst_iff.mp hst).1 hx q
end
theorem zmt_joint {T P mt : Nat → Int32} (g : zMt T P 48 mt) {x : Nat} (hx : x < 16) (h : ¬ mt x = 0) : ∃ j, j < 48 ∧ ¬ P j = -1 ∧ T j = nI x := by
  obtain ⟨k, k1, k2⟩ : ∃ k, k < 32 ∧ zb (mt x) k := Classical.byContradiction (fun no => h (zb_ext (fun k hk => ⟨fun q => absurd ⟨k, hk, q⟩ no, fun q => absurd q (zb_0 k)⟩)))
  obtain ⟨j, a, b, c, -⟩ := (g x hx k k1).mp k2
  exact ⟨j, a, b, c⟩
/-- members have joints, so their kinds are kept -/
theorem zJ2.kind {S : zSh} {I : zFI} {n jn mn tl ln on : Nat} {L : zFL} {c : Nat} (h : iAll S I n jn mn tl ln on) (hJ : zJ2 S I L (zsj I jn)) (hc : c ≤ 1) {t x : Nat} (ht : t < 16) (hx : x < 16) (hst : zst (I (44 + 8 * c + 1)) t = true) (q : zb (zcm (I (44 + 8 * c + 1)) t) x) : ∃ j, j < jn ∧ I 14 j = nI x := by
  obtain ⟨p1, p2, p3⟩ := hJ.pr h hc
  obtain ⟨j, a, b, d⟩ := zmt_joint p3 hx (zmem_mate (zMt_sym p1 p3) ht (by omega) hst q)
  have sl := zsj_le I jn
  refine ⟨j, Classical.byContradiction (fun no => b (p2 j a (by omega))), d⟩
theorem zRs.same {S : zSh} {I : zFI} {n jn mn tl ln on : Nat} {L : zFL} {I' : zFI} {L' : zFL} (h : iAll S I n jn mn tl ln on) (hJ : zJ2 S I L (zsj I jn)) (hR : zRs S I L) (w : zSameJ I L I' L' jn) : zRs S I' L' := by
  obtain ⟨w1, w2, w3, w4, w5, w6, w7, w8, w9, w10, -⟩ := w
  refine hR.fr h.1 (fun _ => rfl) (fun a a1 a2 => w9 a (by omega)) (fun r hr => ?_) (fun a _ _ => by rw [w10]) (fun c t x hc ht hx hst q => ?_)
  · rcases hr with rfl | rfl | rfl <;> assumption
  · obtain ⟨j, j1, j2⟩ := hJ.kind h hc ht hx hst q
    have := (w3 j j1).2.2.2.2
    rw [j2, znIc (by omega)] at this
    exact this
theorem zRs.none {S : zSh} {I : zFI} {L : zFL} (h0 : I 44 5 = 0) (h1 : I 52 5 = 0) : zRs S I L := fun c g hc hg b => by
  rcases (by omega : c = 0 ∨ c = 1) with e | e
  · rw [e] at b
    have b : zb (I 44 5) g := b
    rw [h0] at b
    exact absurd b (zb_0 g)
  · rw [e] at b
    have b : zb (I 52 5) g := b
    rw [h1] at b
    exact absurd b (zb_0 g)
theorem zRs.scr {S : zSh} {I J : zFI} {L M : zFL} (h : zRs S I L) (hS : zStd S) (w : zScrd I J) (el : ∀ a, 44 ≤ a → a ≤ 59 → M a = L a) : zRs S J M := by
  have big : ∀ x, x ∈ zScr → 67 ≤ x ∧ x ≠ 83 := by decide
  refine h.fr hS (fun _ => rfl) (fun a a1 a2 => w.1 a (fun y => ?_)) (fun r hr => w.1 r (by rcases hr with rfl | rfl | rfl <;> decide)) el (fun c t x _ _ _ _ _ => by rw [w.1 11 (by decide)])
  have := (big a y).1
  omega
/-- refresh, and all that rests on it -/
theorem c_fresh2 {G : Gp} {S : zSh} {I : zFI} {L : zFL} {n jn mn tl ln on : Nat} {Q : zPost} (h : iAll S I n jn mn tl ln on) (hJ : I 0 16 = 0 → zJ2 S I L (zsj I jn)) (hR : I 0 16 = 0 → zRs S I L) (q : ∀ I' L', iAll S I' n jn mn tl ln on → I' 0 16 = 0 → zJ2 S I' L' (zsj I' jn) → zRs S I' L' → Q none S I' L') : ZC G mX11_refresh fX11_refresh lX11_refresh [zo G 0] S I L 0 0 Q := by
  refine c_refresh h (fun e => q I L h e (hJ e) (hR e)) (fun I' L' w e z f1 f2 => ?_)
  have z' : zJ2 S I' L' (zsj I' jn) := by rw [w.sj]; exact z
  exact q I' L' (zJi.all h w) e z' (zRs.none f1 f2)
theorem c_isFrame2 {G : Gp} {S : zSh} {I : zFI} {L : zFL} {n jn mn tl ln on : Nat} {Q : zPost} {v1 v2 : Int32} (h : iAll S I n jn mn tl ln on) (hJ : I 0 16 = 0 → zJ2 S I L (zsj I jn)) (hR : I 0 16 = 0 → zRs S I L)
    (q1 : ∀ I' L' (c g : Nat), c ≤ 1 → v1 = nI c → v2 = nI g → g < zfc I' c → iAll S I' n jn mn tl ln on → I' 0 16 = 0 → zJ2 S I' L' (zsj I' jn) → zRs S I' L' → Q (some (.int 1)) S I' L')
    (q0 : ∀ I' L' (c : Nat), c ≤ 1 → v1 = nI c → (∀ g, v2 = nI g → g < 2147483648 → ¬ g < zfc I' c) → iAll S I' n jn mn tl ln on → I' 0 16 = 0 → zJ2 S I' L' (zsj I' jn) → zRs S I' L' → Q (some (.int 0)) S I' L')
    (qn : ¬ (v1 = 0 ∨ v1 = 1) → Q (some (.int 0)) S I L) : ZC G mX11_isFrame fX11_isFrame lX11_isFrame [zo G 0, .int v1, .int v2] S I L 0 0 Q := by
  refine ZC.of' (vX11_isFrame_0 h.1 ⟨fun c1 => ?_, fun c1 => qn (isCu_0.mp c1)⟩) rfl (Nat.le_of_ble_eq_true rfl) rfl
  have cv := Classical.not_not.mp (fun q => c1 (isCu_0.mpr q))
  obtain ⟨c, hc, e1⟩ := of_01 cv
  refine c_fresh2 h hJ hR (fun I1 L1 A w z a => ⟨rfl, rfl, fun neg => q0 I1 L1 c hc e1 (fun g e hg => ?_) A w z a, fun pos => ⟨cv, fun big => q0 I1 L1 c hc e1 (fun g e hg => ?_) A w z a, fun small => ?_⟩⟩)
  · rw [e] at neg
    exact absurd neg (nI_pos hg)
  · have f8 := zfc_8 A z hc
    have es : p_X3_size I1 (zgid v1) = nI (zfc I1 c) := by
      rw [e1, zgid_c hc]
      exact (z.gth hc).2.1
    rw [es, e, zle, znI (by omega), znI hg] at big
    omega
  · have f8 := zfc_8 A z hc
    have es : p_X3_size I1 (zgid v1) = nI (zfc I1 c) := by
      rw [e1, zgid_c hc]
      exact (z.gth hc).2.1
    obtain ⟨g, hg, e⟩ := zof (Int32.not_lt.mp pos)
    refine q1 I1 L1 c g hc e1 e (Classical.byContradiction (fun no => small ?_)) A w z a
    rw [es, e, zle, znI (by omega), znI hg]
    omega
/-- all that does not rest on joins, frames and raisings -/
theorem iAll.grow {S S' : zSh} {I J : zFI} {n jn mn tl ln on : Nat} (h : iAll S I n jn mn tl ln on) (hS' : zStd S') (rl : ∀ x, zrl S' x = zrl S x) (hr : ∀ b, (b < 139 ∧ b ∉ jRows) → J b = I b) (hk : ∀ k, k ≠ 16 → J 0 k = I 0 k) : iAll S' J n jn mn tl ln on := by
  obtain ⟨hS, hNow, hTim, hJnt, hMrk, hShn, hTap, hFlt, hCus, hRng, hLea, hOut, hWrd⟩ := h
  have h84 : ∀ k, k ∈ zKeep84 → J 84 k = I 84 k := fun k _ => by rw [hr 84 (by decide)]
  have h0 : ∀ k, k ∉ [16] → J 0 k = I 0 k := fun k hk' => hk k (fun q => hk' (by rw [q]; decide))
  have hc := hCus.fr hS (hr 8 (by decide)) (hr 9 (by decide)) (hr 83 (by decide)) (hr 105 (by decide))
  refine ⟨hS', hNow.fr (h0 14 (by decide)) (h0 15 (by decide)) (h84 1 (by decide)) (h84 2 (by decide)), hTim.fr (by rw [h0 14 (by decide)]; exact Int32.le_refl _) (congrFun (hr 10 (by decide)) 0) (h84 3 (by decide)) (hr 11 (by decide)) (hr 12 (by decide)) (hr 13 (by decide)) (hr 85 (by decide)) (hr 86 (by decide)) (hr 87 (by decide)), hJnt.fr (Int32.le_refl _) (by rw [h0 14 (by decide)]; exact Int32.le_refl _) (congrFun (hr 10 (by decide)) 4) (h84 13 (by decide)) (hr 14 (by decide)) (hr 15 (by decide)) (hr 16 (by decide)) (hr 17 (by decide)) (hr 18 (by decide)) (hr 94 (by decide)) (hr 95 (by decide)) (hr 96 (by decide)) (hr 97 (by decide)) (hr 98 (by decide)) (hr 88 (by decide)), hMrk.fr (Int32.le_refl _) (by rw [h0 14 (by decide)]; exact Int32.le_refl _) (congrFun (hr 19 (by decide)) 0) (h84 19 (by decide)) (hr 20 (by decide)) (hr 21 (by decide)) (hr 22 (by decide)) (hr 23 (by decide)) (hr 24 (by decide)) (hr 99 (by decide)) (hr 100 (by decide)) (hr 101 (by decide)) (hr 102 (by decide)) (hr 103 (by decide)), hShn.fr (by unfold p_X11_lastDaySeen; rw [h0 15 (by decide)]) (hr 20 (by decide)) (hr 21 (by decide)) (hr 25 (by decide)), hTap.fr (congrFun (hr 1 (by decide)) 1) (h84 26 (by decide)) (hr 2 (by decide)) (hr 104 (by decide)), hFlt.fr (h84 36 (by decide)) (h84 37 (by decide)) (congrFun (hr 3 (by decide)) 5) (congrFun (hr 3 (by decide)) 6), ?_, hRng.fr (by rw [h0 14 (by decide)]; exact Int32.le_refl _) (hr 68 (by decide)) (hr 69 (by decide)) (hr 70 (by decide)) (hr 71 (by decide)) (hr 72 (by decide)) (hr 73 (by decide)) (hr 89 (by decide)) (hr 90 (by decide)) (hr 91 (by decide)) (hr 92 (by decide)) (hr 93 (by decide)) (hr 131 (by decide)) (hr 132 (by decide)), hLea.fr (Int32.le_refl _) (by rw [h0 14 (by decide)]; exact Int32.le_refl _) (congrFun (hr 77 (by decide)) 0) (h84 79 (by decide)) (hr 78 (by decide)) (hr 79 (by decide)) (hr 80 (by decide)) (hr 81 (by decide)) (hr 134 (by decide)) (hr 135 (by decide)) (hr 136 (by decide)) (hr 137 (by decide)), hOut.fr (h0 12 (by decide)) (h84 90 (by decide)) (hr 82 (by decide)) (hr 138 (by decide)), hWrd.fr (hr 106 (by decide))⟩
  unfold iCus at hc ⊢
  rw [rl, rl]
  exact hc
theorem zF_rows {I J : zFI} {r : Nat} (hr : zCu r) (w : ∀ a, 8 ≤ a → a ≤ 25 → J a = I a) (e83 : J 83 = I 83) (sj : Nat) (dl : Nat → Prop) : zF J r sj dl = zF I r sj dl := by
  have e : J r = I r := by
    rcases hr with rfl | rfl | rfl
    · exact w 8 (by omega) (by omega)
    · exact w 9 (by omega) (by omega)
    · exact e83
  have nm : ∀ x, zNm J r x = zNm I r x := fun x => by
    unfold zNm
    rw [w 22 (by omega) (by omega), w 24 (by omega) (by omega), e]
  unfold zF pT zFt
  funext t h
  rw [nm, nm, w 16 (by omega) (by omega), w 25 (by omega) (by omega), canFit_rows e (w 14 (by omega) (by omega)) (w 17 (by omega) (by omega)) (w 11 (by omega) (by omega)) (w 22 (by omega) (by omega)) (w 23 (by omega) (by omega)) (w 25 (by omega) (by omega))]
theorem zJo.grow {I J : zFI} {L M : zFL} {j f r sj : Nat} {dl : Nat → Prop} (h : zJo I L j f r sj dl) (hr : zCu r) (w : ∀ a, 8 ≤ a → a ≤ 25 → J a = I a) (e83 : J 83 = I 83) (ej : J j = I j) (ej5 : J (j + 5) = I (j + 5)) (f0 : J f 0 = I f 0) (g : ∀ d, 1 ≤ d → d ≤ 4 → J (f + d) = I (f + d)) (l : M j = L j) : zJo J M j f r sj dl := by
  obtain ⟨⟨m, h1⟩, h2⟩ := h
  refine ⟨⟨m, ?_⟩, ?_⟩
  · have ew : zw J = zw I := by
      unfold zw
      rw [w 17 (by omega) (by omega)]
    unfold zJb jPt at h1 ⊢
    rw [zF_rows hr w e83, ew, ej, ej5, l]
    exact h1
  · rw [w 14 (by omega) (by omega), w 16 (by omega) (by omega), ej5]
    unfold zGth at h2 ⊢
    rw [g 1 (by omega) (by omega), g 2 (by omega) (by omega), g 3 (by omega) (by omega), g 4 (by omega) (by omega), f0]
    exact h2
theorem zJ2.grow {S S' : zSh} {I J : zFI} {L M : zFL} {sj : Nat} (h : zJ2 S I L sj) (hS : zStd S) (rl : ∀ x, zrl S' x = zrl S x) (w : ∀ a, 8 ≤ a → a ≤ 42 → J a = I a) (e83 : J 83 = I 83) (f0 : ∀ f, zFm f → J f 0 = I f 0) (g : ∀ f d, zFm f → 1 ≤ d → d ≤ 4 → J (f + d) = I (f + d)) (l : ∀ j, zJn j → M j = L j) : zJ2 S' J M sj := by
  obtain ⟨h1, h2, h3⟩ := h
  unfold zJ2
  rw [rl, rl, w 32 (by omega) (by omega), w 40 (by omega) (by omega)]
  exact ⟨h1.grow (hS.rl (Or.inl rfl)).2 (fun a a1 a2 => w a a1 (by omega)) e83 (w 27 (by omega) (by omega)) (w 32 (by omega) (by omega)) (f0 _ (Or.inl rfl)) (fun d => g 44 d (Or.inl rfl)) (l _ (Or.inl rfl)),
    h2.grow (hS.rl (Or.inr rfl)).2 (fun a a1 a2 => w a a1 (by omega)) e83 (w 35 (by omega) (by omega)) (w 40 (by omega) (by omega)) (f0 _ (Or.inr rfl)) (fun d => g 52 d (Or.inr rfl)) (l _ (Or.inr rfl)), h3⟩
/-- the members of frame g -/
theorem zme_eq {I : zFI} {f t : Nat} {T P s : Nat → Int32} (h : zGth I f T P s) (hP : zPrt T P) (ht : t < 16) (hst : zst (I (f + 1)) t = true) {x : Nat} (hx : x < 16) : zme I f (nI (zcnt (zst (I (f + 1))) t)) x = zbb (zcm (I (f + 1)) t) x := by
  refine Bool.eq_iff_iff.mpr ?_
  have ct := zcnt_le (zst (I (f + 1))) t
  unfold zme
  rw [decide_eq_true_iff, zbb_iff]
  refine ⟨fun e => ?_, fun q => (h.2.2.1 t ht hst).2 x hx q⟩
  rcases zfr_of h hP hx with ⟨a, -⟩ | ⟨t', b1, b2, b3, b4, -⟩
  · rw [a] at e
    exact absurd e.symm (nI_neg1 (by omega))
  · have ct' := zcnt_le (zst (I (f + 1))) t'
    rw [b4] at e
    have := zcnt_inj b2 hst (nI_same (by omega) (by omega) e)
    rw [← this]
    exact b3
def zGs (S S' : zSh) : Prop := S' = S ∨ ∃ m, m ≤ 16 ∧ S' = zgw S (2 ^ m) ∧ zwl S < 2 ^ m
theorem raised_1 {I : zFI} {f g : Nat} (hg : g < 8) : p_X3_isRaised I f (nI g) = 0 ↔ ¬ zb (I f 5) g := by
  unfold p_X3_isRaised
  rw [if_neg (nI_pos (by omega)), if_neg (show ¬ (8 : Int32) ≤ nI g from nI_ge (b := 8) hg (by omega)), ← zb_test (by omega)]
  by_cases c : (I f 5 >>> (nI g &&& 31)) &&& 1 = 1
  · rw [if_pos c]
    exact ⟨fun y => absurd y (by decide), fun y => absurd c y⟩
  · rw [if_neg c]
    exact ⟨fun _ => c, fun _ => rfl⟩
/-- FrameReader.raise -/
theorem c_raise11 {G : Gp} {S : zSh} {I : zFI} {L : zFL} {n jn mn tl ln on : Nat} {Q : zPost} {c g : Nat} (h : iAll S I n jn mn tl ln on) (hc : c ≤ 1) (h16 : I 0 16 = 0) (hJ : zJ2 S I L (zsj I jn)) (hR : zRs S I L) (hg : g < zfc I c)
    (q : ∀ S' I' L', zGs S S' → iAll S' I' n jn mn tl ln on → I' 0 16 = 0 → zJ2 S' I' L' (zsj I' jn) → zRs S' I' L' → zb (I' (44 + 8 * c) 5) g → zfc I' c = zfc I c → Q (some (zo G (44 + 8 * c))) S' I' L') : ZC G mX11_raise fX11_raise lX11_raise [zo G 0, .int (nI c), .int (nI g)] S I L 2 131072 Q := by
  have hS := h.1
  have g8 : g < 8 := Nat.lt_of_lt_of_le hg (zfc_8 h hJ hc)
  have hf : zFm (44 + 8 * c) := by
    rcases (by omega : c = 0 ∨ c = 1) with e | e
    · rw [e]; exact Or.inl rfl
    · rw [e]; exact Or.inr rfl
  have r := (hS.rl (nI_01 hc)).2
  have r' : zrl S (nI c) = 8 ∨ zrl S (nI c) = 9 ∨ zrl S (nI c) = 83 := r
  have gth := hJ.gth hc
  obtain ⟨p1, p2, p3⟩ := hJ.pr h hc
  obtain ⟨t, t1, t2, t3⟩ := zcnt_nth (p := zst (I (44 + 8 * c + 1))) 16 hg
  have done : zb (I (44 + 8 * c) 5) g → Q (some (zo G (44 + 8 * c))) S I L := fun y => q S I L (Or.inl rfl) h h16 hJ hR y rfl
  have make : ¬ zb (I (44 + 8 * c) 5) g → ZC G mX7_raise fX7_raise lX7_raise [zo G 60, zo G (44 + 8 * c), .int (nI g), zo G 10, zo G (zrl S (nI c))] S I L 2 131072 (fun w S1 I1 L1 => w = none ∧ zStd S1 ∧ Q (some (zo G (44 + 8 * c))) S1 I1 L1) := fun nb => by
    refine c_raise hS hf r g8 (zMt_irr p1 p3) (fun S' I' L' go std a1 a2 a3 a4 a5 a6 a7 a8 => ⟨rfl, std, ?_⟩)
    have rl : ∀ x, zrl S' x = zrl S x := go.rl
    have m16 := zcnt_le (zme I (44 + 8 * c) (nI g)) 16
    have gs : zGs S S' := by
      rcases go with ⟨e, -⟩ | ⟨e, y⟩
      · exact Or.inl e
      · exact Or.inr ⟨_, m16, e, y⟩
    have row : ∀ b, b < 139 → (b < 44 ∨ 60 ≤ b) → (b < 60 ∨ 66 < b) → I' b = I b := fun b b1 b2 b3 => a1 b b1 (by omega) (by omega) (by omega) (by omega)
    have A : iAll S' I' n jn mn tl ln on := h.grow std rl (fun b hb => by
      have := hb.2
      rw [jRows_iff] at this
      exact row b hb.1 (by omega) (by omega)) (fun k _ => by rw [row 0 (by omega) (by omega) (by omega)])
    have sj : zsj I' jn = zsj I jn := zsj_fr (by rw [row 0 (by omega) (by omega) (by omega)]) (row 18 (by omega) (by omega) (by omega)) jn
    have ff : ∀ f d, zFm f → 1 ≤ d → d ≤ 4 → I' (f + d) = I (f + d) := fun f d hf d1 d2 => by
      have : f = 44 ∨ f = 52 := hf
      exact a1 _ (by omega) (by omega) (by omega) (by omega) (by omega)
    have f0 : ∀ f, zFm f → I' f 0 = I f 0 := fun f hf => by
      have : f = 44 ∨ f = 52 := hf
      by_cases e : f = 44 + 8 * c
      · rw [e]
        exact a2 0 (by omega)
      · rw [a1 f (by omega) e (by omega) (by omega) (by omega)]
    have e1 : ∀ c', c' ≤ 1 → I' (44 + 8 * c' + 1) = I (44 + 8 * c' + 1) := fun c' hc' => a1 _ (by omega) (by omega) (by omega) (by omega) (by omega)
    have Z : zJ2 S' I' L' (zsj I' jn) := by
      rw [sj]
      refine hJ.grow hS rl (fun a x1 x2 => row a (by omega) (by omega) (by omega)) (row 83 (by omega) (by omega) (by omega)) f0 ff (fun j hj => ?_)
      have : j = 27 ∨ j = 35 := hj
      exact a6 j (by omega) (by omega) (by omega)
    have bit : ∀ k, k < 32 → (zb (I' (44 + 8 * c) 5) k ↔ zb (I (44 + 8 * c) 5) k ∨ k = g) := fun k hk => by
      rw [a3, zb_or, zb_one (by omega) hk]
    have er : I' (zrl S (nI c)) = I (zrl S (nI c)) := row _ (by omega) (by omega) (by omega)
    have ahe : ∀ c', c' ≤ 1 → zAh I' (zrl S (nI c')) = zAh I (zrl S (nI c')) := fun c' hc' => by
      have r2 : zrl S (nI c') = 8 ∨ zrl S (nI c') = 9 ∨ zrl S (nI c') = 83 := (hS.rl (nI_01 hc')).2
      funext x y
      unfold zAh
      rw [ah_row (row _ (by omega) (by omega) (by omega)), row 11 (by omega) (by omega) (by omega)]
    have R : zRs S' I' L' := fun c' g' hc' hg' b => by
      have r2 : zrl S (nI c') = 8 ∨ zrl S (nI c') = 9 ∨ zrl S (nI c') = 83 := (hS.rl (nI_01 hc')).2
      rw [e1 c' hc', rl, ahe c' hc', row _ (by omega) (by omega) (by omega)]
      by_cases e : c' = c
      · rw [e] at b ⊢
        by_cases e' : g' = g
        · rw [e']
          refine ⟨t, t1, t2, t3, ?_⟩
          refine zRt_congr a8 (fun x hx => ?_) (fun _ _ _ => rfl) (fun _ _ _ _ _ _ => Iff.rfl)
          rw [← t3]
          exact zme_eq gth p1 t1 t2 hx
        · have b' : zb (I (44 + 8 * c) 5) g' := ((bit g' (by omega)).mp b).resolve_right e'
          obtain ⟨t', y1, y2, y3, y4⟩ := hR c g' hc hg' b'
          refine ⟨t', y1, y2, y3, ?_⟩
          unfold zRf at y4 ⊢
          rw [a4 g' e', a7 g' e']
          have e7 : (fun i => I' (44 + 8 * c + 7) (16 * g' + i)) = fun i => if i < 16 then I (44 + 8 * c + 7) (16 * g' + i) else I' (44 + 8 * c + 7) (16 * g' + i) := by
            funext i
            by_cases y : i < 16
            · rw [if_pos y]
              exact a5 _ (by omega)
            · rw [if_neg y]
          rw [e7]
          obtain ⟨tm, nr, bf, V, D, z1, z2, z3, z4, z5, z6, z7, z8⟩ := y4
          have c16 := zcnt_le (zbb (zcm (I (44 + 8 * c + 1)) t')) 16
          refine ⟨tm, nr, bf, V, D, z1, z2, z3, z4, z5, z6, fun y => ⟨(z7 y).1, fun i hi => ?_⟩, fun y => ⟨(z8 y).1, fun i hi => ?_, fun i hi hi2 => ?_⟩⟩
          · show (if i < 16 then _ else _) = _
            rw [if_pos hi]
            exact (z7 y).2 i hi
          · show (if i < 16 then _ else _) = _
            rw [if_pos (by omega)]
            exact (z8 y).2.1 i hi
          · show (if i < 16 then _ else _) = _
            rw [if_pos hi]
            exact (z8 y).2.2 i hi hi2
      · have ff' : ∀ d, d ≤ 7 → I' (44 + 8 * c' + d) = I (44 + 8 * c' + d) := fun d hd => a1 _ (by omega) (by omega) (by omega) (by omega) (by omega)
        have b' : zb (I (44 + 8 * c') 5) g' := by
          rw [← show I' (44 + 8 * c') = I (44 + 8 * c') from ff' 0 (by omega)]
          exact b
        obtain ⟨t', y1, y2, y3, y4⟩ := hR c' g' hc' hg' b'
        refine ⟨t', y1, y2, y3, ?_⟩
        unfold zRf at y4 ⊢
        rw [ff' 5 (by omega), ff' 7 (by omega), a6 _ (by omega) (by omega) (by omega)]
        exact y4
    refine q S' I' L' gs A ?_ Z R ((bit g (by omega)).mpr (Or.inr rfl)) ?_
    · rw [row 0 (by omega) (by omega) (by omega)]
      exact h16
    · unfold zfc
      rw [e1 c hc]
  refine ZC.of' (vX11_raise_g (bc := 0) (bs := 0) hS ?_) rfl (Nat.le_of_ble_eq_true rfl) rfl
  rcases (by omega : c = 0 ∨ c = 1) with e | e
  · rw [e] at done make ⊢
    refine ⟨fun _ => ⟨fun y => done (Classical.not_not.mp (fun z => y ((raised_1 g8).mpr z))), fun y => ⟨fun _ => make ((raised_1 g8).mp y), fun z => absurd z (by decide)⟩⟩, fun z => absurd z (by decide)⟩
  · rw [e] at done make ⊢
    refine ⟨fun z => absurd rfl z, fun _ => ⟨fun y => done (Classical.not_not.mp (fun z => y ((raised_1 g8).mpr z))), fun y => ⟨fun z => absurd rfl z, fun _ => make ((raised_1 g8).mp y)⟩⟩⟩
