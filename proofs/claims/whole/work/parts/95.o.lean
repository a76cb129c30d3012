/-- what findFrames leaves -/
def zMg (I : zFI) (mt : Nat → Int32) : Prop := I 84 64 = nI (zcnt (zst mt) 16) ∧ ∀ t, t < 16 → zst mt t = true → I 125 (zcnt (zst mt) t) = zcm mt t
theorem zps_tail {mt : Nat → Int32} {n : Nat} {s : Int32} (h : ∀ a, n ≤ a → a < 16 → mt a = 0) : ∀ k, n ≤ k → k ≤ 16 → zps mt k s = zps mt n s := by
  intro k
  induction k with
  | zero => intro h1 _; rw [show n = 0 by omega]
  | succ k ih =>
    intro h1 h2
    rcases (by omega : n = k + 1 ∨ n ≤ k) with c | c
    · rw [c]
    · have i1 := ih c (by omega)
      rcases zb_dec (zps mt k s) k with d | d
      · rw [zps_y d, h k c (by omega), i1]
        exact Int32.or_zero
      · rw [zps_n d]
        exact i1
theorem zrn_stay {mt : Nat → Int32} {s : Int32} {r : Nat} (h : zrn mt (r + 1) s = zrn mt r s) : ∀ k, zrn mt (r + k) s = zrn mt r s := by
  intro k
  induction k with
  | zero => rfl
  | succ k ih =>
    show zps mt 16 (zrn mt (r + k) s) = _
    rw [ih]
    exact h
theorem zrn_17 {mt : Nat → Int32} {t : Nat} (ht : t < 16) (h16 : ∀ a k, a < 16 → zb (mt a) k → k < 16) : zrn mt 17 (zone t) = zrn mt 16 (zone t) :=
  zb_ext (fun k hk => ⟨fun q => zps_in (zcm_cl h16 ht) (fun _ _ y => y) 16 (Nat.le_refl _) k hk q, fun q => zps_sup 16 q⟩)
def zmn (n : Nat) (J : zFI) (a : Nat) : Int32 := if a < n then J 124 a else 0
theorem m_findFrames {G : Gp} {S : zSh} {I : zFI} {L : zFL} {n jn mn tl ln on : Nat} {Q : zPost} {c : Nat} {P mt : Nat → Int32} (h : iAll S I n jn mn tl ln on) (hc : c ≤ 1) (hP : zPrt (I 14) P) (hM : zMt (I 14) P 48 mt) (hp : ∀ x, x < zsj I jn → I 119 (48 * c + x) = P x) (ho : ∀ x, x < 48 → zsj I jn ≤ x → P x = -1)
    (q : ∀ I', (∀ b, b ≠ 84 → b ≠ 124 → b ≠ 125 → I' b = I b) → (∀ k, k ≠ 64 → I' 84 k = I 84 k) → zMg I' mt → (∀ a, a < 16 → ¬ mt a = 0 → I' 124 a = mt a) → Q none S I' L) : ZC G mX12_findFrames fX12_findFrames lX12_findFrames [zo G 84, .int (nI c)] S I L 0 0 Q := by
  have hA := h
  obtain ⟨hS, hNow, hTim, hJnt, hMrk, hShn, hTap, hFlt, hCus, hRng, hLea, hOut, hWrd⟩ := h
  have hn3 : I 84 3 = nI n := hTim.2.2.1
  have hn16 : n ≤ 16 := hTim.2.1
  have hj13 : I 84 13 = nI jn := hJnt.2.2.1
  have hj48 : jn ≤ 48 := hJnt.2.1
  have sjn := zsj_le I jn
  have m16 := zMt_16 hP hM
  have mS := zMt_sym hP hM
  have mI := zMt_irr hP hM
  have tn : ∀ x a, x < zsj I jn → I 14 x = nI a → a < 16 → a < n := fun x a hx e ha => by
    obtain ⟨-, -, -, -, -, -, u, -⟩ := hJnt.2.2.2.1 x (by omega)
    rw [e, zlt, znI (by omega), znI (by omega)] at u
    omega
  have big : ∀ a, n ≤ a → a < 16 → mt a = 0 := fun a ha h16 => zb_ext (fun k hk => ⟨fun y => by
    obtain ⟨x, x1, x2, x3, -⟩ := (hM a h16 k hk).mp y
    have : x < zsj I jn := Classical.byContradiction (fun no => x2 (ho x x1 (by omega)))
    have := tn x a this x3 h16
    omega, fun y => absurd y (zb_0 k)⟩)
  have sweep : ∀ (J : zFI) (v2 v5 : Int32) (t : Nat), J 84 3 = nI n → (∀ a, a < n → J 124 a = mt a) → ∀ (s : Int32), (ZW G mX12_findFrames fX12_findFrames lX12_findFrames 149 [zo G 84, .int (nI c), .int v2, .int (nI t), .int (zps mt 16 s), .int v5, .null] [] S J L 0 0 Q) → ∀ (k x : Nat), x + k = n → ZW G mX12_findFrames fX12_findFrames lX12_findFrames 163 [zo G 84, .int (nI c), .int v2, .int (nI t), .int (zps mt x s), .int v5, .int (nI x)] [] S J L 0 0 Q := by
    intro J v2 v5 t j1 j2 s done k
    induction k with
    | zero =>
      intro x hx
      have : x = n := by omega
      subst this
      refine vX12_findFrames_163 hS ⟨fun _ => ?_, fun hc => ?_⟩
      · rw [← zps_tail big 16 hn16 (Nat.le_refl _)]
        exact done
      · rw [j1] at hc
        exact absurd (Int32.le_refl _) hc
    | succ k ih =>
      intro x hx
      have i1 := ih (x + 1) (by omega)
      refine vX12_findFrames_163 hS ⟨fun hc => ?_, fun _ => ⟨fun c => ?_, fun c => ⟨znIin (by omega) (by omega), ?_⟩⟩⟩
      · rw [j1] at hc
        exact absurd hc (nI_ge (by omega) (by omega))
      · rw [zps_n (fun y => c ((zb_test (by omega)).mpr y))] at i1
        rw [nI_1]
        exact i1
      · rw [zps_y ((zb_test (by omega)).mp c)] at i1
        rw [nI_1, znIc (by omega), j2 x (by omega)]
        exact i1
  have grow : ∀ (J : zFI) (v2 : Int32) (t : Nat), t < 16 → J 84 3 = nI n → (∀ a, a < n → J 124 a = mt a) → (∀ v5, ZW G mX12_findFrames fX12_findFrames lX12_findFrames 149 [zo G 84, .int (nI c), .int v2, .int (nI t), .int (zcm mt t), .int v5, .null] [] S J L 0 0 Q ∨ ¬ v5 = zcm mt t) → ∀ (k r : Nat) (v5 : Int32), r + k = 17 → (r = 0 ∧ v5 = 0 ∨ 1 ≤ r ∧ v5 = zrn mt (r - 1) (zone t)) → ZW G mX12_findFrames fX12_findFrames lX12_findFrames 149 [zo G 84, .int (nI c), .int v2, .int (nI t), .int (zrn mt r (zone t)), .int v5, .null] [] S J L 0 0 Q := by
    intro J v2 t ht j1 j2 fin k
    have stop : ∀ r v5, r ≤ 17 → (r = 0 ∧ v5 = 0 ∨ 1 ≤ r ∧ v5 = zrn mt (r - 1) (zone t)) → zrn mt r (zone t) = v5 → ZW G mX12_findFrames fX12_findFrames lX12_findFrames 149 [zo G 84, .int (nI c), .int v2, .int (nI t), .int (zrn mt r (zone t)), .int v5, .null] [] S J L 0 0 Q := by
      intro r v5 hr hv e
      rcases hv with ⟨r0, v0⟩ | ⟨r1, v1⟩
      · exfalso
        rw [r0, v0] at e
        have : zb (zone t) t := (zb_one (by omega) (by omega)).mpr rfl
        have e : zone t = 0 := e
        rw [e] at this
        exact zb_0 t this
      · have st := zrn_stay (mt := mt) (s := zone t) (r := r - 1) (by rw [show r - 1 + 1 = r by omega, e, v1]) (17 - r)
        rw [show r - 1 + (17 - r) = 16 by omega, ← v1] at st
        have st : zcm mt t = v5 := st
        rw [e, ← st]
        exact (fin (zcm mt t)).resolve_right (fun no => no rfl)
    induction k with
    | zero =>
      intro r v5 hr hv
      have : r = 17 := by omega
      subst this
      refine stop 17 v5 (Nat.le_refl _) hv ?_
      rw [(hv.resolve_left (fun y => by omega)).2]
      exact zrn_17 ht m16
    | succ k ih =>
      intro r v5 hr hv
      by_cases e : zrn mt r (zone t) = v5
      · exact stop r v5 (by omega) hv e
      · refine vX12_findFrames_149 hS ⟨fun y => absurd y e, fun _ => ?_⟩
        exact sweep J v2 _ t j1 j2 (zrn mt r (zone t)) (ih (r + 1) _ (by omega) (Or.inr ⟨by omega, rfl⟩)) n 0 (by omega)
  have found : ∀ (K : zFI), (∀ b, b ≠ 84 → b ≠ 124 → K b = I b) → (∀ k, k ≠ 64 → K 84 k = I 84 k) → (∀ a, a < n → K 124 a = mt a) → ∀ (k t : Nat) (J : zFI) (v2 : Int32), t + k = n → (∀ b, b ≠ 84 → b ≠ 125 → J b = K b) → (∀ k, k ≠ 64 → J 84 k = K 84 k) → J 84 64 = nI (zcnt (zst mt) t) → (∀ t', t' < t → zst mt t' = true → J 125 (zcnt (zst mt) t') = zcm mt t') → (∀ x, x < 32 → (zb v2 x ↔ ∃ t', t' < t ∧ zst mt t' = true ∧ zb (zcm mt t') x)) → ZW G mX12_findFrames fX12_findFrames lX12_findFrames 112 [zo G 84, .int (nI c), .int v2, .int (nI t), .null, .null, .null] [] S J L 0 0 Q := by
    intro K k1 k2 k3 k
    induction k with
    | zero =>
      intro t J v2 ht j1 j2 j3 j4 j5
      have : t = n := by omega
      subst this
      have none16 : ∀ a, t ≤ a → a < 16 → ¬ zst mt a = true := fun a h1 h2 y => (zst_iff.mp y).1 (big a h1 h2)
      have cnt : ∀ a, t ≤ a → a ≤ 16 → zcnt (zst mt) a = zcnt (zst mt) t := by
        intro a
        induction a with
        | zero => intro h1 _; rw [show t = 0 by omega]
        | succ a iha =>
          intro h1 h2
          rcases (by omega : t = a + 1 ∨ t ≤ a) with d | d
          · rw [d]
          · rw [zcnt_succ, if_neg (none16 a d (by omega))]
            exact iha d (by omega)
      refine vX12_findFrames_112 hS ⟨fun _ => q J (fun b h1 h2 h3 => by rw [j1 b h1 h3, k1 b h1 h2]) (fun k hk => by rw [j2 k hk, k2 k hk]) ⟨?_, fun t' h1 h2 => ?_⟩ (fun a ha hm => ?_), fun hc => ?_⟩
      · rw [j3, cnt 16 hn16 (Nat.le_refl _)]
      · exact j4 t' (Classical.byContradiction (fun no => none16 t' (by omega) h1 h2)) h2
      · rw [j1 124 (by omega) (by omega)]
        exact k3 a (Classical.byContradiction (fun no => hm (big a (by omega) ha)))
      · rw [j2 3 (by omega), k2 3 (by omega), hn3] at hc
        exact absurd (Int32.le_refl _) hc
    | succ k ih =>
      intro t J v2 ht j1 j2 j3 j4 j5
      have tc : (nI t).toNatClampNeg = t := znIc (by omega)
      have e3 : J 84 3 = nI n := by rw [j2 3 (by omega), k2 3 (by omega), hn3]
      have e124 : ∀ a, a < n → J 124 a = mt a := fun a ha => by rw [j1 124 (by omega) (by omega)]; exact k3 a ha
      have skip : ¬ zst mt t = true → ZW G mX12_findFrames fX12_findFrames lX12_findFrames 112 [zo G 84, .int (nI c), .int v2, .int (nI t + 1), .null, .null, .null] [] S J L 0 0 Q := fun no => by
        have ne : ∀ t', t' < t + 1 → zst mt t' = true → t' < t := fun t' a b => by
          rcases (by omega : t' < t ∨ t' = t) with c | c
          · exact c
          · rw [c] at b
            exact absurd b no
        rw [nI_1]
        refine ih (t + 1) J v2 (by omega) j1 j2 ?_ (fun t' a b => j4 t' (ne t' a b) b) (fun x hx => (j5 x hx).trans ⟨fun y => ?_, fun y => ?_⟩)
        · rw [j3, zcnt_succ, if_neg no]
        · obtain ⟨t', a, b⟩ := y
          exact ⟨t', by omega, b⟩
        · obtain ⟨t', a, b⟩ := y
          exact ⟨t', ne t' a b.1, b⟩
      refine vX12_findFrames_112 hS ⟨fun hc => ?_, fun _ => ⟨znIin (by omega) (by omega), ?_⟩⟩
      · rw [e3] at hc
        exact absurd hc (nI_ge (by omega) (by omega))
      rw [tc, e124 t (by omega)]
      refine ⟨fun z => skip (fun y => (zst_iff.mp y).1 z), fun z => ⟨fun d => ?_, fun d => skip (fun y => ?_)⟩⟩
      · have no : ¬ ∃ t', t' < t ∧ zst mt t' = true ∧ zb (zcm mt t') t := fun y => d ((zb_test (by omega)).mpr ((j5 t (by omega)).mpr y))
        have st : zst mt t = true := by
          refine zst_iff.mpr ⟨z, fun t' ht' hm' y => no ?_⟩
          obtain ⟨s, s1, s2, s3⟩ := zst_ex m16 mS (show t' < 16 by omega) hm'
          have e := zcm_eq m16 mS (show s < 16 by omega) (show t' < 16 by omega) s3
          exact ⟨s, by omega, s2, by rw [← e]; exact y⟩
        have e8 := zst_8 m16 mS mI (t + 1) (by omega)
        rw [zcnt_succ, if_pos st] at e8
        have lower : ∀ t', t' < t → zst mt t' = true → zcnt (zst mt) t' < zcnt (zst mt) t := fun t' a b => by
          have := zcnt_up (p := zst mt) (show t' + 1 ≤ t by omega)
          rw [zcnt_succ, if_pos b] at this
          omega
        refine grow J v2 t (by omega) e3 e124 (fun v5 => ?_) 17 0 0 (by omega) (Or.inl ⟨rfl, rfl⟩)
        by_cases e : v5 = zcm mt t
        · refine Or.inl (vX12_findFrames_149 hS ⟨fun _ => ⟨?_, ?_⟩, fun y => absurd e.symm y⟩)
          · rw [j3]
            exact znIin (by omega) (by omega)
          · rw [j3, znIc (by omega), nI_1, nI_1]
            refine ih (t + 1) _ _ (by omega) (fun b h1 h2 => ?_) (fun k hk => ?_) ?_ (fun t' a b => ?_) (fun x hx => ?_)
            · rw [← u2_row _ _ _ _ h1, ← u2_row _ _ _ _ h2]
              exact j1 b h1 h2
            · rw [u2_ne _ _ _ _ (fun y => hk y.2), u2_ne _ _ _ _ (by omega)]
              exact j2 k hk
            · rw [u2_same, zcnt_succ, if_pos st]
            · rcases (by omega : t' < t ∨ t' = t) with y | y
              · rw [u2_ne _ _ _ _ (by omega), u2_ne _ _ _ _ (by have := lower t' y b; omega)]
                exact j4 t' y b
              · rw [y, u2_ne _ _ _ _ (by omega), u2_same]
            · rw [zb_or, j5 x hx]
              refine ⟨fun y => ?_, fun y => ?_⟩
              · rcases y with ⟨t', a, b⟩ | y
                · exact ⟨t', by omega, b⟩
                · exact ⟨t, by omega, st, y⟩
              · obtain ⟨t', a, b1, b2⟩ := y
                rcases (by omega : t' < t ∨ t' = t) with y | y
                · exact Or.inl ⟨t', y, b1, b2⟩
                · rw [y] at b2
                  exact Or.inr b2
        · exact Or.inr e
      · obtain ⟨t', a, b1, b2⟩ := (j5 t (by omega)).mp ((zb_test (by omega)).mp d)
        exact (zst_iff.mp y).2 t' a (zst_iff.mp b1).1 b2
  have mates : ∀ (k x : Nat) (J : zFI), x + k = jn → (∀ b, b ≠ 124 → J b = I b) → zMt (I 14) P x (zmn n J) → ZW G mX12_findFrames fX12_findFrames lX12_findFrames 25 [zo G 84, .int (nI c), .int (nI x), .null, .null, .null, .null] [] S J L 0 0 Q := by
    intro k
    induction k with
    | zero =>
      intro x J hx j1 j2
      have : x = jn := by omega
      subst this
      refine vX12_findFrames_25 hS ⟨fun _ => found (u2 J 84 64 0) (fun b h1 h2 => ?_) (fun k hk => ?_) (fun a ha => ?_) n 0 _ 0 (by omega) (fun _ _ _ => rfl) (fun _ _ => rfl) ?_ (fun t' a => absurd a (Nat.not_lt_zero _)) (fun x hx => ⟨fun y => absurd y (zb_0 x), fun y => ?_⟩), fun hc => ?_⟩
      · rw [← u2_row _ _ _ _ h1, j1 b h2]
      · rw [u2_ne _ _ _ _ (fun y => hk y.2), j1 84 (by omega)]
      · rw [u2_ne _ _ _ _ (by omega)]
        have full : zMt (I 14) P 48 (zmn n J) := fun a ha k hk => by
          rw [j2 a ha k hk]
          refine ⟨fun ⟨y, y1, y2⟩ => ⟨y, by omega, y2⟩, fun ⟨y, y1, y2⟩ => ⟨y, ?_, y2⟩⟩
          exact Classical.byContradiction (fun no => y2.1 (ho y y1 (by omega)))
        have := zMt_eq full hM a (by omega)
        unfold zmn at this
        rw [if_pos ha] at this
        exact this
      · rw [u2_same]
        rfl
      · obtain ⟨t', a, -⟩ := y
        exact absurd a (Nat.not_lt_zero _)
      · rw [j1 84 (by omega), hj13] at hc
        exact absurd (Int32.le_refl _) hc
    | succ k ih =>
      intro x J hx j1 j2
      have sJ : zScrd I J := ⟨fun b hb => j1 b (fun y => hb (by rw [y]; decide)), by rw [j1 77 (by omega)], fun k _ => by rw [j1 84 (by omega)]⟩
      obtain ⟨hAJ, -, -⟩ := zScrd.all (L := L) hA sJ
      have hJJ := hAJ
      obtain ⟨-, hNowJ, -, hJntJ, -⟩ := hJJ
      have xc : (nI x).toNatClampNeg = x := znIc (by omega)
      obtain ⟨r94, -, -, -, -, t0, t1, -⟩ := hJnt.2.2.2.1 x (by omega)
      refine vX12_findFrames_25 hS ⟨fun hc => ?_, fun _ => ?_⟩
      · rw [j1 84 (by omega), hj13] at hc
        exact absurd hc (nI_ge (by omega) (by omega))
      rw [zx48, znIc (by omega), xc, nI_1, j1 119 (by omega), j1 94 (by omega)]
      refine ⟨znIin (by omega) (by omega), ?_⟩
      have mj := mJnt_0 (v := nI x) hNowJ hJntJ
      rw [sJ.sj] at mj
      by_cases s : x < zsj I jn
      · rw [hp x s]
        refine ⟨fun e => ih (x + 1) J (by omega) j1 (zMt_skip j2 e), fun e => ⟨fun _ _ => znIin (by omega) (by omega), fun no => ?_, fun _ => ?_⟩⟩
        · refine absurd ⟨Int32.not_lt.mp (nI_pos (by omega)), ?_⟩ (mj.mp no)
          rw [zlt, znI (by omega), znI (by omega)]
          omega
        · obtain ⟨y, a, b, h1, h2, h3, h4, h5, h6, h7, h8⟩ := hP x (by omega) e
          have ys : y < zsj I jn := Classical.byContradiction (fun no => by
            have := ho y h1 (by omega)
            rw [h3] at this
            exact nI_neg1 (by omega) this)
          obtain ⟨r94y, -⟩ := hJnt.2.2.2.1 y (by omega)
          have an := tn x a s h6 h4
          have bn := tn y b ys h7 h5
          rw [h2, znIc (show y < 2147483648 by omega), r94, r94y, h6, h7]
          refine ⟨znIin (by omega) (by omega), znIin h4 (by omega), znIin h1 (by omega), ?_⟩
          rw [znIc (by omega), zone_eq]
          refine ih (x + 1) _ (by omega) (fun b' hb => ?_) (zMt_take j2 h2 h1 h4 h5 h6 h7 ?_ (fun a' ha' => ?_))
          · rw [← u2_row _ _ _ _ hb]
            exact j1 b' hb
          · unfold zmn
            rw [if_pos an, if_pos an, u2_same]
          · unfold zmn
            rw [u2_ne _ _ _ _ (fun y => ha' y.2)]
      · have e := ho x (by omega) (by omega)
        have sk := ih (x + 1) J (by omega) j1 (zMt_skip j2 e)
        refine ⟨fun _ => sk, fun _ => ⟨fun _ _ => znIin (by omega) (by omega), fun _ => sk, fun no => absurd (mj.mpr (fun y => ?_)) no⟩⟩
        have y := y.2
        rw [zlt, znI (by omega), znI (by omega)] at y
        omega
  have clear : ∀ (k t : Nat) (J : zFI), t + k = n → (∀ b, b ≠ 124 → J b = I b) → (∀ a, a < t → J 124 a = 0) → ZW G mX12_findFrames fX12_findFrames lX12_findFrames 2 [zo G 84, .int (nI c), .int (nI t), .null, .null, .null, .null] [] S J L 0 0 Q := by
    intro k
    induction k with
    | zero =>
      intro t J ht j1 j2
      have : t = n := by omega
      subst this
      refine vX12_findFrames_2 hS ⟨fun _ => mates jn 0 J (by omega) j1 (zMt_zero (fun a _ => ?_)), fun hc => ?_⟩
      · unfold zmn
        split
        · exact j2 a (by assumption)
        · rfl
      · rw [j1 84 (by omega), hn3] at hc
        exact absurd (Int32.le_refl _) hc
    | succ k ih =>
      intro t J ht j1 j2
      refine vX12_findFrames_2 hS ⟨fun hc => ?_, fun _ => ⟨znIin (by omega) (by omega), ?_⟩⟩
      · rw [j1 84 (by omega), hn3] at hc
        exact absurd hc (nI_ge (by omega) (by omega))
      · rw [nI_1, znIc (by omega)]
        refine ih (t + 1) _ (by omega) (fun b hb => ?_) (fun a ha => ?_)
        · rw [← u2_row _ _ _ _ hb]
          exact j1 b hb
        · by_cases e : a = t
          · rw [e, u2_same]
          · rw [u2_ne _ _ _ _ (fun y => e y.2)]
            exact j2 a (by omega)
  exact ZC.of' (vX12_findFrames_0 hS (clear n 0 I (by omega) (fun _ _ => rfl) (fun a ha => absurd ha (Nat.not_lt_zero _)))) rfl (Nat.le_of_ble_eq_true rfl) rfl
