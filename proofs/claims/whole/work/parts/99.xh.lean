/-! what joins rest on is kept by the calls that leave stale as it is -/
theorem zmat_congr {sg sg' : Nat → Int32} {n : Nat} {l : List Int32} {b : Int32} (hn : n ≤ 6) (e : ∀ i, i < 6 → sg i = sg' i) (h : zmat sg n l b) : zmat sg' n l b := by
  refine ⟨h.1, fun i hi => ?_⟩
  have p : zPl n i b < 6 := by
    unfold zPl
    split <;> omega
  rw [← e _ p]
  exact h.2 i hi
theorem zisN_same {fo tu : Int32} {sg sg' : Nat → Int32} {n k : Nat} (hn : n ≤ 6) (e : ∀ i, i < 6 → sg i = sg' i) (h : zisN fo tu sg n k) : zisN fo tu sg' n k := by
  obtain ⟨w, w1, w2, w3, w4, w5⟩ := h
  exact ⟨w, w1, w2, w3, w4, zmat_congr hn e w5⟩
theorem zNm_congr {I J : zFI} {r mn t jn : Nat} (hM : iMrk I jn mn) (hShn : iShn I mn) (ht : t < 48) (er : J r = I r) (e22 : J 22 = I 22) (e24 : ∀ i, i < 6 * mn → J 24 i = I 24 i) : zNm J r (I 25 t) = zNm I r (I 25 t) := by
  unfold zNm
  rw [er, e22]
  rcases shn_or hShn ht with e | ⟨m, m1, m2⟩
  · rw [e]
    have : ∀ sg sg' : Nat → Int32, (fun k => (-1 : Int32) = -1 ∨ I 22 (-1 : Int32).toNatClampNeg = 0 ∨ zisN (I r 0) (I r 1) sg (I 22 (-1 : Int32).toNatClampNeg).toNatClampNeg k) = (fun k => (-1 : Int32) = -1 ∨ I 22 (-1 : Int32).toNatClampNeg = 0 ∨ zisN (I r 0) (I r 1) sg' (I 22 (-1 : Int32).toNatClampNeg).toNatClampNeg k) := fun sg sg' => by
      funext k
      exact propext ⟨fun _ => Or.inl rfl, fun _ => Or.inl rfl⟩
    rw [this (fun i => J 24 (6 * (-1 : Int32).toNatClampNeg + i)) (fun i => I 24 (6 * (-1 : Int32).toNatClampNeg + i))]
  · have mm : mn ≤ 200 := hM.2.1
    rw [m2, znIc (by omega)]
    obtain ⟨b1, b2, b3, b4, b5, b6, b7, b8, b9, b10, b11, b12⟩ := hM.2.2.2 m m1
    obtain ⟨q, q1, q2, q3⟩ := zi_le (n := 6) b9 b10 (by decide)
    rw [q3]
    have es : ∀ i, i < 6 → (fun i => J 24 (6 * m + i)) i = (fun i => I 24 (6 * m + i)) i := fun i hi => e24 _ (by omega)
    have : (fun k => nI m = -1 ∨ I 22 m = 0 ∨ zisN (I r 0) (I r 1) (fun i => J 24 (6 * m + i)) q k) = (fun k => nI m = -1 ∨ I 22 m = 0 ∨ zisN (I r 0) (I r 1) (fun i => I 24 (6 * m + i)) q k) := by
      funext k
      refine propext ⟨fun y => y.imp id (fun y => y.imp id (fun y => zisN_same q1 es y)), fun y => y.imp id (fun y => y.imp id (fun y => zisN_same q1 (fun i hi => (es i hi).symm) y))⟩
    rw [this]
theorem canFit_same {I J : zFI} {r t h jn : Nat} (hJ : iJnt I jn jn ∨ True) (ht : t < 48) (hh : h < 48) (er : J r = I r) (e14 : J 14 = I 14) (e17 : J 17 = I 17) (k1 : p_X10_kindOf J (I 14 t) = p_X10_kindOf I (I 14 t)) (k2 : p_X10_kindOf J (I 14 h) = p_X10_kindOf I (I 14 h)) (e22 : J 22 = I 22) (e23 : J 23 = I 23) (e25 : J 25 = I 25) : p_X11_canFit J r (nI t) (nI h) = p_X11_canFit I r (nI t) (nI h) := by
  have t1 : ∀ K : zFI, p_X10_timberOf K (nI t) = K 14 t := fun K => pick_in ht (by omega)
  have t2 : ∀ K : zFI, p_X10_timberOf K (nI h) = K 14 h := fun K => pick_in hh (by omega)
  unfold p_X11_canFit
  rw [t1, t2, t1, t2, e14, k1, k2]
  unfold p_X10_sizeOf p_X1_goesInto p_X6_signsOn p_X6_sideOf p_X11_pick
  rw [er, e17, e22, e23, e25]
theorem zF_same {S : zSh} {I : zFI} {n jn mn tl ln on : Nat} {I' : zFI} {L L' : zFL} {r : Nat} (h : iAll S I n jn mn tl ln on) (hr : zCu r) (w : zSameJ I L I' L' jn) (dl : Nat → Prop) : zF I' r (zsj I jn) dl = zF I r (zsj I jn) dl := by
  obtain ⟨w1, w2, w3, w4, w5, w6, w7, w8, w9, w10, w14, w16, w17, w18⟩ := w
  have er : I' r = I r := by rcases hr with rfl | rfl | rfl <;> assumption
  have sl := zsj_le I jn
  have h48 := h.2.2.2.1.2.1
  have n16 := h.2.2.1.2.1
  have hM := h.2.2.2.2.1
  have hShn := h.2.2.2.2.2.1
  have mc : (I 19 0).toNatClampNeg = mn := by
    have := hM.2.1
    rw [hM.1, znIc (by omega)]
  rw [mc] at w5
  have kd : ∀ t, t < jn → p_X10_kindOf I' (I 14 t) = p_X10_kindOf I (I 14 t) := fun t ht => by
    obtain ⟨-, -, -, -, -, b6, b7, -⟩ := h.2.2.2.1.2.2.2.1 t ht
    obtain ⟨a, a1, a2⟩ := zof b6
    rw [a2, zlt, znI a1, znI (by omega)] at b7
    have e := (w3 t ht).2.2.2.2
    rw [a2, znIc a1] at e
    rw [a2]
    show p_X11_pick I' 11 16 (nI a) = p_X11_pick I 11 16 (nI a)
    rw [pick_in (by omega) (by omega), pick_in (by omega) (by omega), e]
  have key : ∀ t h, t < zsj I jn → h < zsj I jn → zFt I' r t h = zFt I r t h := fun t h ht hh => by
    unfold zFt
    rw [w4 25 (by omega) (by omega) (by omega), zNm_congr hM hShn (show t < 48 by omega) er (w4 22 (by omega) (by omega) (by omega)) w5, zNm_congr hM hShn (show h < 48 by omega) er (w4 22 (by omega) (by omega) (by omega)) w5,
      canFit_same (jn := jn) (Or.inr trivial) (show t < 48 by omega) (show h < 48 by omega) er w14 w17 (kd t (by omega)) (kd h (by omega)) (w4 22 (by omega) (by omega) (by omega)) (w4 23 (by omega) (by omega) (by omega)) (w4 25 (by omega) (by omega) (by omega))]
  funext t h
  unfold zF pT
  rw [w16]
  refine propext ⟨fun q => ⟨q.1, q.2.1, ?_⟩, fun q => ⟨q.1, q.2.1, ?_⟩⟩
  · rw [← key t h q.1.1 q.2.1.1]
    exact q.2.2
  · rw [key t h q.1.1 q.2.1.1]
    exact q.2.2
theorem zJo.same {S : zSh} {I : zFI} {n jn mn tl ln on : Nat} {I' : zFI} {L L' : zFL} {j f r : Nat} {dl : Nat → Prop} (h : iAll S I n jn mn tl ln on) (hr : zCu r) (hj : zJn j) (hf : zFm f) (w : zSameJ I L I' L' jn) (z : zJo I L j f r (zsj I jn) dl) : zJo I' L' j f r (zsj I jn) dl := by
  have eF := zF_same h hr w dl
  obtain ⟨w1, w2, w3, w4, w5, w6, w7, w8, w9, w10, w14, w16, w17, w18⟩ := w
  have hj' : j = 27 ∨ j = 35 := hj
  have hf' : f = 44 ∨ f = 52 := hf
  have ew : zw I' = zw I := by
    unfold zw
    rw [w17]
  obtain ⟨⟨m, h1⟩, h2⟩ := z
  refine ⟨⟨m, ?_⟩, ?_⟩
  · unfold zJb jPt at h1 ⊢
    rw [eF, ew, w9 (j + 5) (by omega), w9 j (by omega), w10]
    exact h1
  · rw [w14, w16, w9 (j + 5) (by omega)]
    exact h2.fr (fun d hd => w9 _ (by omega))
theorem zJ2.same {S : zSh} {I : zFI} {n jn mn tl ln on : Nat} {I' : zFI} {L L' : zFL} (h : iAll S I n jn mn tl ln on) (hJ : zJ2 S I L (zsj I jn)) (w : zSameJ I L I' L' jn) : zJ2 S I' L' (zsj I' jn) := by
  have W := w
  obtain ⟨w1, w2, w3, w4, w5, w6, w7, w8, w9, w10, w14, w16, w17, w18⟩ := w
  rw [zsj_fr w1 w18]
  obtain ⟨h1, h2, h3⟩ := hJ
  refine ⟨h1.same h (h.1.rl (Or.inl rfl)).2 (Or.inl rfl) (Or.inl rfl) W, ?_, ?_⟩
  · rw [w9 32 (by omega)]
    exact h2.same h (h.1.rl (Or.inr rfl)).2 (Or.inr rfl) (Or.inr rfl) W
  · rw [w9 32 (by omega), w9 40 (by omega)]
    exact h3
