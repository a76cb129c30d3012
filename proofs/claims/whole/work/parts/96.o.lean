def jRows : List Nat := [0, 27, 28, 29, 30, 31, 32, 33, 34, 35, 36, 37, 38, 39, 40, 41, 42, 43, 44, 45, 46, 47, 48, 49, 50, 51, 52, 53, 54, 55, 56, 57, 58, 59, 60, 61, 62, 63, 64, 65, 66]
/-- but the joins, frames and raisings, and stale, all is the same -/
def zJi (I J : zFI) : Prop := (∀ b, b ∉ jRows → J b = I b) ∧ ∀ k, k ≠ 16 → J 0 k = I 0 k
theorem zJi.refl (I : zFI) : zJi I I := ⟨fun _ _ => rfl, fun _ _ => rfl⟩
theorem zJi.trans {I J K : zFI} (h : zJi I J) (g : zJi J K) : zJi I K := ⟨fun b hb => (g.1 b hb).trans (h.1 b hb), fun k hk => (g.2 k hk).trans (h.2 k hk)⟩
theorem jRows_iff (b : Nat) : b ∈ jRows ↔ b = 0 ∨ 27 ≤ b ∧ b ≤ 66 := by
  unfold jRows
  simp only [List.mem_cons, List.mem_nil_iff, or_false]
  omega
theorem zJi.of {I J : zFI} (h : ∀ b, b < 27 ∨ 66 < b → J b = I b) : zJi I J := ⟨fun b hb => h b (by rw [jRows_iff] at hb; omega), fun k _ => by rw [h 0 (by omega)]⟩
theorem zJi.all {S : zSh} {I : zFI} {n jn mn tl ln on : Nat} {J : zFI} (h : iAll S I n jn mn tl ln on) (w : zJi I J) : iAll S J n jn mn tl ln on := by
  obtain ⟨hS, hNow, hTim, hJnt, hMrk, hShn, hTap, hFlt, hCus, hRng, hLea, hOut, hWrd⟩ := h
  obtain ⟨hr, hk⟩ := w
  have h84 : ∀ k, k ∈ zKeep84 → J 84 k = I 84 k := fun k _ => by rw [hr 84 (by decide)]
  have h0 : ∀ k, k ∉ [16] → J 0 k = I 0 k := fun k hk' => hk k (fun q => hk' (by rw [q]; decide))
  exact ⟨hS, hNow.fr (h0 14 (by decide)) (h0 15 (by decide)) (h84 1 (by decide)) (h84 2 (by decide)), hTim.fr (by rw [h0 14 (by decide)]; exact Int32.le_refl _) (congrFun (hr 10 (by decide)) 0) (h84 3 (by decide)) (hr 11 (by decide)) (hr 12 (by decide)) (hr 13 (by decide)) (hr 85 (by decide)) (hr 86 (by decide)) (hr 87 (by decide)), hJnt.fr (Int32.le_refl _) (by rw [h0 14 (by decide)]; exact Int32.le_refl _) (congrFun (hr 10 (by decide)) 4) (h84 13 (by decide)) (hr 14 (by decide)) (hr 15 (by decide)) (hr 16 (by decide)) (hr 17 (by decide)) (hr 18 (by decide)) (hr 94 (by decide)) (hr 95 (by decide)) (hr 96 (by decide)) (hr 97 (by decide)) (hr 98 (by decide)) (hr 88 (by decide)), hMrk.fr (Int32.le_refl _) (by rw [h0 14 (by decide)]; exact Int32.le_refl _) (congrFun (hr 19 (by decide)) 0) (h84 19 (by decide)) (hr 20 (by decide)) (hr 21 (by decide)) (hr 22 (by decide)) (hr 23 (by decide)) (hr 24 (by decide)) (hr 99 (by decide)) (hr 100 (by decide)) (hr 101 (by decide)) (hr 102 (by decide)) (hr 103 (by decide)), hShn.fr (by unfold p_X11_lastDaySeen; rw [h0 15 (by decide)]) (hr 20 (by decide)) (hr 21 (by decide)) (hr 25 (by decide)), hTap.fr (congrFun (hr 1 (by decide)) 1) (h84 26 (by decide)) (hr 2 (by decide)) (hr 104 (by decide)), hFlt.fr (h84 36 (by decide)) (h84 37 (by decide)) (congrFun (hr 3 (by decide)) 5) (congrFun (hr 3 (by decide)) 6), hCus.fr hS (hr 8 (by decide)) (hr 9 (by decide)) (hr 83 (by decide)) (hr 105 (by decide)), hRng.fr (by rw [h0 14 (by decide)]; exact Int32.le_refl _) (hr 68 (by decide)) (hr 69 (by decide)) (hr 70 (by decide)) (hr 71 (by decide)) (hr 72 (by decide)) (hr 73 (by decide)) (hr 89 (by decide)) (hr 90 (by decide)) (hr 91 (by decide)) (hr 92 (by decide)) (hr 93 (by decide)) (hr 131 (by decide)) (hr 132 (by decide)), hLea.fr (Int32.le_refl _) (by rw [h0 14 (by decide)]; exact Int32.le_refl _) (congrFun (hr 77 (by decide)) 0) (h84 79 (by decide)) (hr 78 (by decide)) (hr 79 (by decide)) (hr 80 (by decide)) (hr 81 (by decide)) (hr 134 (by decide)) (hr 135 (by decide)) (hr 136 (by decide)) (hr 137 (by decide)), hOut.fr (h0 12 (by decide)) (h84 90 (by decide)) (hr 82 (by decide)) (hr 138 (by decide)), hWrd.fr (hr 106 (by decide))⟩
theorem zJi.seen {I J : zFI} (w : zJi I J) : p_X11_lastDaySeen J = p_X11_lastDaySeen I := by
  unfold p_X11_lastDaySeen
  rw [w.2 15 (by decide)]
theorem zJi.sj {I J : zFI} (w : zJi I J) (n : Nat) : zsj J n = zsj I n := by
  unfold zsj
  rw [w.seen, w.1 18 (by decide)]
theorem zJi.sn {I J : zFI} (w : zJi I J) (n : Nat) : zsn J n = zsn I n := by
  unfold zsn
  rw [w.seen, w.1 13 (by decide)]
theorem zJi.r {I J : zFI} (w : zJi I J) {r : Nat} (hr : zCu r) : J r = I r := w.1 r (by rcases hr with rfl | rfl | rfl <;> decide)
theorem zJi.nm {I J : zFI} (w : zJi I J) {r : Nat} (hr : zCu r) (x : Int32) : zNm J r x = zNm I r x := by
  unfold zNm
  rw [w.1 22 (by decide), w.1 24 (by decide), w.r hr]
theorem zJi.F {I J : zFI} (w : zJi I J) {r : Nat} (hr : zCu r) (sj : Nat) (dl : Nat → Prop) : zF J r sj dl = zF I r sj dl := by
  unfold zF pT zFt
  funext t h
  rw [w.nm hr, w.nm hr, w.1 16 (by decide), w.1 25 (by decide), canFit_rows (w.r hr) (w.1 14 (by decide)) (w.1 17 (by decide)) (w.1 11 (by decide)) (w.1 22 (by decide)) (w.1 23 (by decide)) (w.1 25 (by decide))]
theorem zJi.w {I J : zFI} (w : zJi I J) : zw J = zw I := by
  unfold zw
  rw [w.1 17 (by decide)]
/-- the join in cell j and its frames in f are right -/
def zJb (I : zFI) (L : zFL) (j : Nat) (F : Nat → Nat → Prop) (w : Nat → Nat → Int) (M : Nat → Nat) : Prop :=
  jBest F w M ∧ jPt I j F M ∧ (I j 12).toInt = jSz M ∧ (I j 13).toInt = jCo w M ∧ (∀ x, x < 64 → (zhas (L j 8) x ↔ ∃ t, t < 48 ∧ ¬ M t = 50 ∧ jTie F w M t ∧ (x = t ∨ x = M t))) ∧ ∀ x, x < 48 → (zhas (L j 5) x ↔ jTn F x)
def zJo (I : zFI) (L : zFL) (j f r sj : Nat) (dl : Nat → Prop) : Prop := (∃ M, zJb I L j (zF I r sj dl) (zw I) M) ∧ zGth I f (I 14) (I (j + 5)) (I 16)
theorem zPrt_of {I : zFI} {n jn r sj j cc : Nat} {dl : Nat → Prop} {M : Nat → Nat} (hTim : iTim I n) (hJnt : iJnt I n jn) (hCu : iCu1 I r cc) (hsj : sj ≤ jn) (hv : jVal (zF I r sj dl) M) (hp : jPt I j (zF I r sj dl) M) :
    zPrt (I 14) (I (j + 5)) ∧ ∀ x, x < 48 → sj ≤ x → I (j + 5) x = -1 := by
  have hj48 : jn ≤ 48 := hJnt.2.1
  have hn16 : n ≤ 16 := hTim.2.1
  have Fi : ∀ t h, zF I r sj dl t h → t < sj ∧ h < sj ∧ ∃ a b, a < 16 ∧ b < 16 ∧ I 14 t = nI a ∧ I 14 h = nI b ∧ a ≠ b := fun t h q => by
    obtain ⟨⟨q1, -⟩, ⟨q2, -⟩, q3⟩ := q
    obtain ⟨a, ka, a1, a2, a3, a4, a5, a6⟩ := kind_of hTim hJnt (show t < jn by omega)
    obtain ⟨b, kb, b1, b2, b3, b4, b5, b6⟩ := kind_of hTim hJnt (show h < jn by omega)
    have F := (canFit_iff (r := r) hJnt hTim.2.1 (show t < jn by omega) (show h < jn by omega) a5 b5).mp q3.2
    obtain ⟨-, -, -, -, -, c1, c2, -⟩ := hJnt.2.2.2.1 t (by omega)
    obtain ⟨-, -, -, -, -, d1, d2, -⟩ := hJnt.2.2.2.1 h (by omega)
    obtain ⟨a', a1', ea⟩ := zof c1
    obtain ⟨b', b1', eb⟩ := zof d1
    rw [ea, zlt, znI a1', znI (by omega)] at c2
    rw [eb, zlt, znI b1', znI (by omega)] at d2
    refine ⟨q1, q2, a', b', by omega, by omega, ea, eb, fun e => F.1 ?_⟩
    rw [ea, eb, e]
  have tn : ∀ x, x < 48 → ¬ I (j + 5) x = -1 → (jTn (zF I r sj dl) x ∧ ¬ M x = 50 ∧ I (j + 5) x = nI (M x)) ∨ ∃ t, t < 48 ∧ M t = x ∧ I (j + 5) x = nI t := fun x hx no => by
    by_cases c : jTn (zF I r sj dl) x
    · have e := (hp x hx).1 c
      by_cases d : M x = 50
      · rw [if_pos d] at e
        exact absurd e no
      · rw [if_neg d] at e
        exact Or.inl ⟨c, d, e⟩
    · by_cases d : jHl (zF I r sj dl) x
      · have e := (hp x hx).2.1 d
        by_cases g : jFr M x
        · exact absurd (e.1 g) no
        · obtain ⟨t, g1⟩ := Classical.not_forall.mp g
          obtain ⟨g2, g3⟩ := Classical.not_imp.mp g1
          have g3 := Classical.not_not.mp g3
          exact Or.inr ⟨t, g2, g3, e.2 t g2 g3⟩
      · exact absurd ((hp x hx).2.2 c d) no
  refine ⟨fun x hx no => ?_, fun x hx hs => ?_⟩
  · rcases tn x hx no with ⟨c1, c2, c3⟩ | ⟨t, t1, t2, t3⟩
    · have f := (hv.1 x hx).resolve_left c2
      obtain ⟨f1, f2, a, b, f3, f4, f5, f6, f7⟩ := Fi _ _ f
      exact ⟨M x, a, b, by omega, c3, ((hp (M x) (by omega)).2.1 ⟨x, f⟩).2 x hx rfl, f3, f4, f5, f6, f7⟩
    · have f := (hv.1 t t1).resolve_left (by omega)
      obtain ⟨f1, f2, a, b, f3, f4, f5, f6, f7⟩ := Fi _ _ f
      have e := (hp t t1).1 ⟨_, f⟩
      rw [if_neg (by omega), t2] at e
      rw [t2] at f6
      exact ⟨t, b, a, t1, t3, e, f4, f3, f6, f5, fun q => f7 q.symm⟩
  · refine (hp x hx).2.2 (fun ⟨h, q⟩ => ?_) (fun ⟨t, q⟩ => ?_)
    · have := (Fi _ _ q).1
      omega
    · have := (Fi _ _ q).2.1
      omega
