theorem zhas_or2 {s : Int64} {a b k : Nat} (ha : a < 64) (hb : b < 64) (hk : k < 64) : zhas (s ||| (zbt a ||| zbt b)) k ↔ zhas s k ∨ k = a ∨ k = b := by
  unfold zhas
  rw [Int64.toBitVec_or, BitVec.getLsbD_or, Int64.toBitVec_or, BitVec.getLsbD_or, zbt_all ⟨a, ha⟩ ⟨k, hk⟩, zbt_all ⟨b, hb⟩ ⟨k, hk⟩]
  simp
/-- over the arcs of the join, or over its tenons -/
theorem arcs_sum {na : Nat} {aT aH : Nat → Nat} {w : Nat → Nat → Int} {m : Nat → Nat} (hok : jOk (jArc na aT aH) w) (hord : ∀ i i', i < i' → i' < na → aT i < aT i' ∨ (aT i = aT i' ∧ aH i < aH i')) (hm : jVal (jArc na aT aH) m) (g : Nat → Int) : sm (fun i => if m (aT i) = aH i then g (aT i) else 0) na = sm (fun t => if m t = 50 then 0 else g t) 48 := by
  have e1 : sm (fun i => if m (aT i) = aH i then g (aT i) else 0) na = sm (fun i => sm (fun t => if aT i = t ∧ aH i = m t then g t else 0) 48) na := by
    refine sm_congr (fun i hi => ?_)
    have b := (hok _ _ ⟨i, hi, rfl, rfl⟩).1
    rw [sm_one (k := aT i) b (fun t ht hn => if_neg (fun q => hn q.1.symm))]
    by_cases c : m (aT i) = aH i
    · rw [if_pos c, if_pos ⟨rfl, c.symm⟩]
    · rw [if_neg c, if_neg (fun q => c q.2.symm)]
  rw [e1, sm_swap (fun i t => if aT i = t ∧ aH i = m t then g t else 0)]
  refine sm_congr (fun t ht => ?_)
  rcases hm.1 t ht with c | c
  · rw [if_pos c, sm_nil (fun i hi => if_neg (fun q => by
      have := (hok _ _ ⟨i, hi, rfl, rfl⟩).2.1
      omega))]
  · obtain ⟨i, i1, i2, i3⟩ := c
    have b := (hok _ _ ⟨i, i1, rfl, rfl⟩).2.1
    rw [if_neg (by omega), sm_one (k := i) i1 (fun i' hi' hn => if_neg (fun q => ?_)), if_pos ⟨i2, i3⟩]
    rcases Nat.lt_trichotomy i i' with y | y | y
    · have := hord i i' y hi'
      omega
    · exact hn y.symm
    · have := hord i' i y i1
      omega
/-- the pair of tenon t is in all best joins -/
def jTie (F : Nat → Nat → Prop) (w : Nat → Nat → Int) (m : Nat → Nat) (t : Nat) : Prop := ∀ m', jOpt F w m' → m' t = m t
theorem c_findForced {G : Gp} {Q : zPost} {S : zSh} {I : zFI} {L : zFL} {j na : Nat} {aT aH : Nat → Nat} {w : Nat → Nat → Int} {m : Nat → Nat} {π : Nat → Int} (hS : zStd S) (hj : zJn j) (hst : jSt I L j na aT aH w) (hord : ∀ i i', i < i' → i' < na → aT i < aT i' ∨ (aT i = aT i' ∧ aH i < aH i')) (hm : jVal (jArc na aT aH) m) (hpt : jPt I j (jArc na aT aH) m) (hπ : jFe (jArc na aT aH) w jAll m π) (hgap : 1000 ≤ π 48 - π 49) (hcl : L j 7 = 0) (hf0 : L j 8 = 0) (h12 : I j 12 = 0) (h13 : I j 13 = 0)
    (h : ∀ I' L', (∀ b, b ≠ j → b ≠ j + 6 → b ≠ j + 7 → I' b = I b) → I' j 4 = I j 4 → (∀ b k, ¬ (b = j ∧ k = 8) → L' b k = L b k) → (I' j 12).toInt = jSz m → (I' j 13).toInt = jCo w m → (∀ x, x < 64 → (zhas (L' j 8) x ↔ ∃ t, t < 48 ∧ ¬ m t = 50 ∧ jTie (jArc na aT aH) w m t ∧ (x = t ∨ x = m t))) → Q none S I' L') : ZC G mX4_findForced fX4_findForced lX4_findForced [zo G j] S I L 0 0 Q := by
  have hst' := hst
  obtain ⟨s1, s2, s3, s4, hok⟩ := hst
  have hopt := j_gap_opt hok hm hπ hgap
  have hop : ∀ x, x < 48 → (zhas (L j 7) x ↔ ¬ jAll x) := fun x _ => by
    rw [hcl]
    exact ⟨fun q => absurd q (zhas_0 x), fun q => absurd trivial q⟩
  have bnd : ∀ i, i ≤ na → 0 ≤ sm (fun i => if m (aT i) = aH i then w (aT i) (aH i) else 0) i ∧ sm (fun i => if m (aT i) = aH i then w (aT i) (aH i) else 0) i ≤ 3 * (i : Int) := by
    intro i
    induction i with
    | zero => intro _; exact ⟨Int.le_refl _, Int.le_refl _⟩
    | succ i ih =>
      intro hi
      have := ih (by omega)
      have b := hok _ _ ⟨i, by omega, rfl, rfl⟩
      rw [sm_succ]
      split <;> omega
  have cnt : ∀ i, i ≤ na → 0 ≤ sm (fun i => if m (aT i) = aH i then 1 else 0) i ∧ sm (fun i => if m (aT i) = aH i then 1 else 0) i ≤ (i : Int) := by
    intro i
    induction i with
    | zero => intro _; exact ⟨Int.le_refl _, Int.le_refl _⟩
    | succ i ih =>
      intro hi
      have := ih (by omega)
      rw [sm_succ]
      split <;> omega
  have key : ∀ (k i : Nat) (J : zFI) (M : zFL), i + k = na → (∀ b, b ≠ j → b ≠ j + 6 → b ≠ j + 7 → J b = I b) → J j 4 = I j 4 → (∀ b k, ¬ (b = j ∧ k = 8) → M b k = L b k) → (J j 12).toInt = sm (fun i => if m (aT i) = aH i then 1 else 0) i → (J j 13).toInt = sm (fun i => if m (aT i) = aH i then w (aT i) (aH i) else 0) i → (∀ x, x < 64 → (zhas (M j 8) x ↔ ∃ i', i' < i ∧ m (aT i') = aH i' ∧ jTie (jArc na aT aH) w m (aT i') ∧ (x = aT i' ∨ x = aH i'))) → ZW G mX4_findForced fX4_findForced lX4_findForced 2 [zo G j, .int (nI i), .null, .null] [] S J M 0 0 Q := by
    intro k
    induction k with
    | zero =>
      intro i J M hi j1 j4 l1 j12 j13 l8
      have : i = na := by omega
      subst this
      refine vX4_findForced_2 hS hj ⟨fun _ => h J M j1 j4 l1 ?_ ?_ (fun x hx => (l8 x hx).trans ⟨?_, ?_⟩), fun hc => ?_⟩
      · rw [j12, arcs_sum hok hord hm (fun _ => 1)]
        rfl
      · rw [j13]
        have := arcs_sum hok hord hm (fun t => w t (m t))
        unfold jCo
        rw [← this]
        refine sm_congr (fun i _ => ?_)
        by_cases c : m (aT i) = aH i
        · rw [if_pos c, if_pos c, c]
        · rw [if_neg c, if_neg c]
      · rintro ⟨i', i1, i2, i3, i4⟩
        have b := hok _ _ ⟨i', i1, rfl, rfl⟩
        exact ⟨aT i', b.1, by omega, i3, by rw [i2]; exact i4⟩
      · rintro ⟨t, t1, t2, t3, t4⟩
        obtain ⟨i', i1, i2, i3⟩ := (hm.1 t t1).resolve_left t2
        exact ⟨i', i1, by rw [i2, i3], by rw [i2]; exact t3, by rw [i2, i3]; exact t4⟩
      · rw [j4, s1] at hc
        exact absurd (Int32.le_refl _) hc
    | succ k ih =>
      intro i J M hi j1 j4 l1 j12 j13 l8
      have ic : (nI i).toNatClampNeg = i := znIc (by omega)
      obtain ⟨a1, a2, a3⟩ := s3 i (by omega)
      have hF : jArc na aT aH (aT i) (aH i) := ⟨i, by omega, rfl, rfl⟩
      obtain ⟨b1, b2, b3, b4, -⟩ := hok _ _ hF
      have e2 : J (j + 2) i = nI (aT i) := by rw [j1 _ (by omega) (by omega) (by omega)]; exact a1
      have e3 : J (j + 3) i = nI (aH i) := by rw [j1 _ (by omega) (by omega) (by omega)]; exact a2
      have e5 : J (j + 5) (aT i) = I (j + 5) (aT i) := by rw [j1 _ (by omega) (by omega) (by omega)]
      have mt : J (j + 5) (aT i) = nI (aH i) ↔ m (aT i) = aH i := by
        rw [e5, (hpt _ b1).1 ⟨_, hF⟩]
        by_cases q : m (aT i) = 50
        · rw [if_pos q]
          refine ⟨fun y => ?_, fun y => by omega⟩
          rw [zeq, znI (by omega), show (-1 : Int32).toInt = -1 from rfl] at y
          omega
        · have := (hok _ _ ((hm.1 _ b1).resolve_left q)).2.1
          rw [if_neg q]
          exact nI_eq (by omega) (by omega)
      have n1 := cnt i (by omega)
      have n2 := bnd i (by omega)
      refine vX4_findForced_2 hS hj ⟨fun hc => ?_, fun _ => ?_⟩
      · rw [j4, s1] at hc
        exact absurd hc (nI_ge (by omega) (by omega))
      · have pe : p_X4_partnerOf J j (nI (aT i)) = J (j + 5) (aT i) := pick_in b1 (by decide)
        rw [ic, e2, e3, pe, mt, nI_1]
        refine ⟨fun no => absurd no (nI_ge (b := 576) (by omega) (by omega)), fun _ => ⟨znIin (by omega) (by decide), fun c => ?_, fun c => ?_⟩⟩
        · refine ih (i + 1) J M (by omega) j1 j4 l1 ?_ ?_ (fun x hx => (l8 x hx).trans ⟨?_, ?_⟩)
          · rw [sm_succ, if_neg c, Int.add_zero]
            exact j12
          · rw [sm_succ, if_neg c, Int.add_zero]
            exact j13
          · rintro ⟨i', i1, i2⟩
            exact ⟨i', by omega, i2⟩
          · rintro ⟨i', i1, i2⟩
            rcases (by omega : i' < i ∨ i' = i) with y | y
            · exact ⟨i', y, i2⟩
            · rw [y] at i2
              exact absurd i2.1 c
        · have ex : (u2 J j 12 (J j 12 + 1)) j 13 = J j 13 := u2_ne _ _ _ _ (by omega)
          have ey : (u2 J j 12 (J j 12 + 1)) (j + 4) i = J (j + 4) i := u2_ne _ _ _ _ (by omega)
          rw [ex, ey]
          have e4 : (J (j + 4) i).toInt = w (aT i) (aH i) := by rw [j1 _ (by omega) (by omega) (by omega)]; exact a3
          generalize hK : u2 (u2 J j 12 (J j 12 + 1)) j 13 (J j 13 + J (j + 4) i) = K
          have k1 : ∀ b, b ≠ j → K b = J b := fun b hb => by rw [← hK, ← u2_row _ _ _ _ hb, ← u2_row _ _ _ _ hb]
          have k4 : K j 4 = J j 4 := by rw [← hK, u2_ne _ _ _ _ (by omega), u2_ne _ _ _ _ (by omega)]
          have k12 : (K j 12).toInt = sm (fun i => if m (aT i) = aH i then 1 else 0) (i + 1) := by
            rw [← hK, u2_ne _ _ _ _ (by omega), u2_same, zinc (by omega), j12, sm_succ, if_pos c]
          have k13 : (K j 13).toInt = sm (fun i => if m (aT i) = aH i then w (aT i) (aH i) else 0) (i + 1) := by
            rw [← hK, u2_same, zadd (by omega) (by omega), j13, e4, sm_succ, if_pos c]
          have st1 : jSt K M j na aT aH w := jSt_rows hst' (by rw [k4, j4]) (by rw [k1 _ (by omega), j1 _ (by omega) (by omega) (by omega)]) (by rw [k1 _ (by omega), j1 _ (by omega) (by omega) (by omega)]) (by rw [k1 _ (by omega), j1 _ (by omega) (by omega) (by omega)]) (l1 _ _ (by omega)) (l1 _ _ (by omega))
          refine c_measureTo hS hj st1 hm (jPt_rows hpt (by rw [k1 _ (by omega), j1 _ (by omega) (by omega) (by omega)])) hπ (fun x hx => by rw [l1 j 7 (by omega)]; exact hop x hx) (fun _ _ => trivial) (by omega) (fun I1 dn => ⟨rfl, rfl, ?_⟩)
          have r4 : (I1 (j + 4) i).toInt = w (aT i) (aH i) := by rw [dn.1 _ (by omega) (by omega), k1 _ (by omega)]; exact e4
          have ed : I1 (j + 6) (aT i) = I1 (j + 4) i ↔ (I1 (j + 6) (aT i)).toInt = w (aT i) (aH i) := by rw [zeq, r4]
          rw [pick_in (show aT i < 50 by omega) (by decide), ed]
          have rows : ∀ b, b ≠ j → b ≠ j + 6 → b ≠ j + 7 → I1 b = I b := fun b h0 h6 h7 => by rw [dn.1 b h6 h7, k1 b h0, j1 b h0 h6 h7]
          have q4 : I1 j 4 = I j 4 := by rw [dn.1 j (by omega) (by omega), k4, j4]
          have q12 := k12
          rw [← show I1 j 12 = K j 12 by rw [dn.1 j (by omega) (by omega)]] at q12
          have q13 := k13
          rw [← show I1 j 13 = K j 13 by rw [dn.1 j (by omega) (by omega)]] at q13
          refine ⟨fun d => ?_, fun d => ?_⟩
          · obtain ⟨m', o1, o2⟩ := j_loose hok hπ hgap hm dn.2.1 hF c d
            refine ih (i + 1) I1 M (by omega) rows q4 l1 q12 q13 (fun x hx => (l8 x hx).trans ⟨?_, ?_⟩)
            · rintro ⟨i', i1, i2⟩
              exact ⟨i', by omega, i2⟩
            · rintro ⟨i', i1, i2, i3, i4⟩
              rcases (by omega : i' < i ∨ i' = i) with y | y
              · exact ⟨i', y, i2, i3, i4⟩
              · rw [y] at i3
                exact absurd ((i3 m' o1).trans c) o2
          · have tie : jTie (jArc na aT aH) w m (aT i) := fun m' hm' => by rw [c]; exact j_tied hok hπ hopt hm' dn.2.1 hF c d
            refine ih (i + 1) I1 _ (by omega) rows q4 (fun b k hbk => by rw [u2_ne _ _ _ _ hbk]; exact l1 b k hbk) q12 q13 (fun x hx => ?_)
            rw [u2_same]
            refine (zhas_or2 (a := aT i) (b := aH i) (by omega) (by omega) hx).trans ⟨?_, ?_⟩
            · rintro (q | q)
              · obtain ⟨i', i1, i2⟩ := (l8 x hx).mp q
                exact ⟨i', by omega, i2⟩
              · exact ⟨i, by omega, c, tie, q⟩
            · rintro ⟨i', i1, i2, i3, i4⟩
              rcases (by omega : i' < i ∨ i' = i) with y | y
              · exact Or.inl ((l8 x hx).mpr ⟨i', y, i2, i3, i4⟩)
              · rw [y] at i4
                exact Or.inr i4
  refine ZC.of' (vX4_findForced_0 hS hj (key na 0 I L (by omega) (fun _ _ _ _ => rfl) rfl (fun _ _ _ => rfl) (by rw [h12]; rfl) (by rw [h13]; rfl) (fun x hx => ?_))) rfl (Nat.le_of_ble_eq_true rfl) rfl
  rw [hf0]
  refine ⟨fun q => absurd q (zhas_0 x), ?_⟩
  rintro ⟨i', i1, -⟩
  exact absurd i1 (Nat.not_lt_zero _)
