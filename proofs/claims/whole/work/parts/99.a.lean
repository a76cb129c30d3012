/-- what the joins rest on is in these rows -/
def zKe (I J : zFI) : Prop := ∀ a, (8 ≤ a ∧ a ≤ 66) ∨ a = 83 → J a = I a
theorem zKe.F {I J : zFI} (w : zKe I J) {r : Nat} (hr : zCu r) (sj : Nat) (dl : Nat → Prop) : zF J r sj dl = zF I r sj dl := by
  have e : J r = I r := w r (by rcases hr with rfl | rfl | rfl <;> omega)
  have nm : ∀ x, zNm J r x = zNm I r x := fun x => by
    unfold zNm
    rw [w 22 (by omega), w 24 (by omega), e]
  unfold zF pT zFt
  funext t h
  rw [nm, nm, w 16 (by omega), w 25 (by omega), canFit_rows e (w 14 (by omega)) (w 17 (by omega)) (w 11 (by omega)) (w 22 (by omega)) (w 23 (by omega)) (w 25 (by omega))]
theorem zKe.w {I J : zFI} (w : zKe I J) : zw J = zw I := by
  unfold zw
  rw [w 17 (by omega)]
theorem zJo.keep {I J : zFI} {L : zFL} {j f r sj : Nat} {dl : Nat → Prop} (h : zJo I L j f r sj dl) (hr : zCu r) (w : zKe I J) (hj : zJn j) (hf : zFm f) : zJo J L j f r sj dl := by
  have hj' : j = 27 ∨ j = 35 := hj
  have hf' : f = 44 ∨ f = 52 := hf
  obtain ⟨⟨m, h1⟩, h2⟩ := h
  refine ⟨⟨m, ?_⟩, ?_⟩
  · unfold zJb jPt at h1 ⊢
    rw [w.F hr, w.w, w (j + 5) (by omega), w j (by omega)]
    exact h1
  · rw [w 14 (by omega), w 16 (by omega), w (j + 5) (by omega)]
    exact h2.fr (fun d hd => w _ (by omega))
theorem zJ2.keep {S : zSh} {I J : zFI} {L : zFL} {sj : Nat} (h : zJ2 S I L sj) (hS : zStd S) (w : zKe I J) : zJ2 S J L sj := by
  obtain ⟨h1, h2, h3⟩ := h
  have e32 : J 32 = I 32 := w 32 (by omega)
  refine ⟨h1.keep (hS.rl (Or.inl rfl)).2 w (Or.inl rfl) (Or.inl rfl), ?_, fun x hx hs => ?_⟩
  · rw [e32]
    exact h2.keep (hS.rl (Or.inr rfl)).2 w (Or.inr rfl) (Or.inr rfl)
  · rw [e32, w 40 (by omega)]
    exact h3 x hx hs
theorem zJ2.hole {S : zSh} {I : zFI} {n jn mn tl ln on : Nat} {L : zFL} {c : Nat} (h : iAll S I n jn mn tl ln on) (hJ : zJ2 S I L (zsj I jn)) (hc : c ≤ 1) : ∀ x y, x < 48 → y < 48 → ¬ I (27 + 8 * c + 5) x = -1 → I 16 x = 0 → I (27 + 8 * c + 5) x = nI y → ¬ I 16 y = 0 := by
  have h48 := h.2.2.2.1.2.1
  have sl := zsj_le I jn
  obtain ⟨⟨⟨M0, g0⟩, f0⟩, ⟨⟨M1, g1⟩, f1⟩, -⟩ := hJ
  rcases (by omega : c = 0 ∨ c = 1) with e | e
  · rw [e]
    exact zhole_of (by omega) g0
  · rw [e]
    exact zhole_of (by omega) g1
theorem zwz_part {P s : Nat → Int32} {fb : Nat → Bool} {a b : Nat} (h : a ≤ b) (no : ∀ x, a ≤ x → x < b → P x = -1) : zwz P s fb b = zwz P s fb a := by
  induction b with
  | zero => rw [show a = 0 by omega]
  | succ b ih =>
    rcases (by omega : a = b + 1 ∨ a ≤ b) with c | c
    · rw [c]
    · rw [zwz_n (fun q => q.1 (no b c (by omega)))]
      exact ih c (fun k h1 h2 => no k h1 (by omega))
theorem zpl_1 {P : Nat → Int32} {fb : Nat → Bool} {x : Nat} {l : List Int32} (h : fb x = true) : l ++ zdg (nI x) ++ [45] ++ zdg (P x) ++ [33] ++ [59] = l ++ zpl P fb x := by
  unfold zpl
  rw [if_pos h]
  simp only [List.append_assoc]
theorem zpl_0 {P : Nat → Int32} {fb : Nat → Bool} {x : Nat} {l : List Int32} (h : ¬ fb x = true) : l ++ zdg (nI x) ++ [45] ++ zdg (P x) ++ [59] = l ++ zpl P fb x := by
  unfold zpl
  rw [if_neg h]
  simp only [List.append_assoc]
theorem len_dg {l : List Int32} {v : Int32} {k : Nat} (h : l.length ≤ k) : (l ++ zdg v).length ≤ k + 2 := by
  have := zdg_len v
  rw [List.length_append]
  omega
theorem len_1 {l : List Int32} {b : Int32} {k : Nat} (h : l.length ≤ k) : (l ++ [b]).length ≤ k + 1 := by
  rw [List.length_append]
  show l.length + 1 ≤ k + 1
  omega
def zfb (L : zFL) (j x : Nat) : Bool := decide (¬ p_X4_isForced L j (nI x) = 0)
theorem zwz_room {S : zSh} {I : zFI} {n jn mn tl ln on : Nat} {L : zFL} {c x : Nat} (h : iAll S I n jn mn tl ln on) (hJ : zJ2 S I L (zsj I jn)) (hc : c ≤ 1) (hx : x < 48) (q : ¬ I (27 + 8 * c + 5) x = -1 ∧ I 16 x = 0) (fb : Nat → Bool) : (zwz (I (27 + 8 * c + 5)) (I 16) fb x).length ≤ 161 := by
  have u := zpa_24 (hJ.pr h hc).1 (hJ.hole h hc)
  have l := zwz_len (I (27 + 8 * c + 5)) (I 16) fb x
  have m := zcnt_up (p := zpa (I (27 + 8 * c + 5)) (I 16)) (show x + 1 ≤ 48 by omega)
  rw [zcnt_succ, if_pos (zpa_iff.mpr q)] at m
  omega
theorem c_write {G : Gp} {S : zSh} {I : zFI} {L : zFL} {n jn mn tl ln on : Nat} {Q : zPost} {c : Nat} (h : iAll S I n jn mn tl ln on) (hc : c ≤ 1) (hJ : zJ2 S I L (zsj I jn)) (q : ∀ I', zCo I I' (zwz (I (27 + 8 * c + 5)) (I 16) (zfb L (27 + 8 * c)) 48) → Q (some (.int (I' 0 12))) S I' L) : ZW G mX11_write fX11_write lX11_write 21 [zo G 0, .int (nI c), .int 0, .null] [] S (u2 I 0 12 0) L 0 0 Q := by
  have key : ∀ (k x : Nat) (J : zFI), x + k = 48 → zCo I J (zwz (I (27 + 8 * c + 5)) (I 16) (zfb L (27 + 8 * c)) x) → ZW G mX11_write fX11_write lX11_write 21 [zo G 0, .int (nI c), .int (nI x), .null] [] S J L 0 0 Q := by
    intro k
    induction k with
    | zero =>
      intro x J hx g
      have : x = 48 := by omega
      subst this
      exact vX11_write_21 h.1 ⟨fun _ => q J g, fun no => absurd (Int32.le_refl _) no⟩
    | succ k ih =>
      intro x J hx g
      have e1 : p_X4_partnerOf J (zjid (nI c)) (nI x) = I (27 + 8 * c + 5) x := by
        rw [zjid_c hc]
        show p_X11_pick J (27 + 8 * c + 5) 48 (nI x) = _
        rw [pick_in (by omega) (by omega), g.1 _ (by omega) (by omega)]
      have e2 : p_X10_sortOf J (nI x) = I 16 x := by
        show p_X11_pick J 16 48 (nI x) = _
        rw [pick_in (by omega) (by omega), g.1 _ (by omega) (by omega)]
      refine vX11_write_21 h.1 ⟨fun no => absurd no (nI_ge (b := 48) (by omega) (by omega)), fun _ => ⟨nI_01 hc, ?_⟩⟩
      rw [e1, e2, zjid_c hc, nI_1]
      refine ⟨fun d => ih (x + 1) J (by omega) ?_, fun d1 => ⟨fun d => ih (x + 1) J (by omega) ?_, fun d2 => ?_⟩⟩
      · rw [zwz_n (fun y => y.1 d)]
        exact g
      · rw [zwz_n (fun y => d y.2)]
        exact g
      · have r0 := zwz_room h hJ hc (by omega) ⟨d1, d2⟩ (zfb L (27 + 8 * c))
        have r1 := len_dg (v := nI x) r0
        have r2 := len_1 (b := 45) r1
        have r3 := len_dg (v := I (27 + 8 * c + 5) x) r2
        have r4 := len_1 (b := 33) r3
        refine c_putN h.1 g (by omega) (fun J1 g1 => ⟨rfl, rfl, c_put h.1 g1 (by omega) (fun J2 g2 => ⟨rfl, rfl, c_putN h.1 g2 (by omega) (fun J3 g3 => ⟨rfl, rfl, nI_01 hc, fun f => c_put h.1 g3 (by omega) (fun J4 g4 => ⟨rfl, rfl, ih (x + 1) J4 (by omega) ?_⟩), fun f => c_put h.1 g3 (by omega) (fun J4 g4 => ⟨rfl, rfl, c_put h.1 g4 (by omega) (fun J5 g5 => ⟨rfl, rfl, ih (x + 1) J5 (by omega) ?_⟩)⟩)⟩)⟩)⟩)
        · rw [zwz_y ⟨d1, d2⟩, ← zpl_0 (by unfold zfb; rw [decide_eq_false (fun y => y f)]; exact Bool.noConfusion)]
          exact g4
        · rw [zwz_y ⟨d1, d2⟩, ← zpl_1 (by unfold zfb; exact decide_eq_true f)]
          exact g5
  refine key 48 0 _ (by omega) ⟨fun b b0 _ => (u2_row _ _ _ _ b0).symm, fun k hk => u2_ne _ _ _ _ (fun y => hk y.2), ?_, fun k hk => absurd hk (Nat.not_lt_zero _)⟩
  rw [u2_same]
  rfl
