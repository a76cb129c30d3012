theorem c_chooseFirst {G : Gp} {Q : zPost} {S : zSh} {I0 I : zFI} {L : zFL} {j na t : Nat} {aT aH : Nat → Nat} {w : Nat → Nat → Int} {op : Nat → Prop} {m : Nat → Nat} {π : Nat → Int} (hS : zStd S) (hj : zJn j) (hst : jSt I L j na aT aH w) (hord : ∀ i i', i < i' → i' < na → aT i < aT i' ∨ (aT i = aT i' ∧ aH i < aH i')) (hm : jVal (jArc na aT aH) m) (hpt : jPt I j (jArc na aT aH) m) (hπ : jFe (jArc na aT aH) w jAll m π) (hgap : 1000 ≤ π 48 - π 49) (hcl : ∀ x, x < 48 → (¬ op x ↔ (x < t ∧ jTn (jArc na aT aH) x))) (dn : jDone I0 I j t (jE (jArc na aT aH) w op m)) (ht : jTn (jArc na aT aH) t)
    (h : ∀ I' m2, jVal (jArc na aT aH) m2 → jFe (jArc na aT aH) w jAll m2 π → jPt I' j (jArc na aT aH) m2 → (∀ b, b ≠ j + 5 → I' b = I b) → (∀ x, x < t → m2 x = m x) → (∀ m', jOpt (jArc na aT aH) w m' → (∀ x, x < t → m' x = m x) → m2 t ≤ m' t) → Q none S I' (u2 L j 7 (L j 7 ||| zbt t))) : ZC G mX4_chooseFirstHole fX4_chooseFirstHole lX4_chooseFirstHole [zo G j, .int (nI t)] S I L 0 0 Q := by
  have hst' := hst
  obtain ⟨s1, s2, s3, s4, hok⟩ := hst
  have t48 := j_tlt hok ht
  have hopt := j_gap_opt hok hm hπ hgap
  have ho : op t := Classical.not_not.mp (fun q => absurd ((hcl t t48).mp q).1 (Nat.lt_irrefl _))
  have key : ∀ (k i : Nat), i + k = na → (∀ i', i' < i → aT i' = t → ¬ m t = aH i' ∧ ∀ m', jOpt (jArc na aT aH) w m' → (∀ x, x < t → m' x = m x) → ¬ m' t = aH i') → ZW G mX4_chooseFirstHole fX4_chooseFirstHole lX4_chooseFirstHole 2 [zo G j, .int (nI t), .int (nI i), .null] [] S I L 0 0 Q := by
    intro k
    induction k with
    | zero =>
      intro i hi h1
      have : i = na := by omega
      subst this
      refine vX4_chooseFirstHole_2 hS hj ⟨fun _ => h I m hm hπ hpt (fun _ _ => rfl) (fun _ _ => rfl) (fun m' hm' ag => ?_), fun hc => ?_⟩
      · have mt : m t = 50 := Classical.byContradiction (fun q => by
          obtain ⟨i', i1, i2, i3⟩ := (hm.1 t t48).resolve_left q
          exact (h1 i' i1 i2).1 i3.symm)
        rcases hm'.1.1 t t48 with q | q
        · omega
        · obtain ⟨i', i1, i2, i3⟩ := q
          exact absurd i3.symm ((h1 i' i1 i2).2 m' hm' ag)
      · rw [s1] at hc
        exact absurd (Int32.le_refl _) hc
    | succ k ih =>
      intro i hi h1
      have ic : (nI i).toNatClampNeg = i := znIc (by omega)
      obtain ⟨a1, a2, a3⟩ := s3 i (by omega)
      have hF : jArc na aT aH (aT i) (aH i) := ⟨i, by omega, rfl, rfl⟩
      obtain ⟨b1, b2, b3, b4, -⟩ := hok _ _ hF
      have nx : (aT i = t → ¬ m t = aH i ∧ ∀ m', jOpt (jArc na aT aH) w m' → (∀ x, x < t → m' x = m x) → ¬ m' t = aH i) → ZW G mX4_chooseFirstHole fX4_chooseFirstHole lX4_chooseFirstHole 2 [zo G j, .int (nI t), .int (nI i + 1), .null] [] S I L 0 0 Q := fun q => by
        rw [nI_1]
        refine ih (i + 1) (by omega) (fun i' hi' => ?_)
        rcases (by omega : i' < i ∨ i' = i) with y | y
        · exact h1 i' y
        · subst y
          exact q
      -- the least hole
      have least1 : ∀ m', aT i = t → jOpt (jArc na aT aH) w m' → (∀ x, x < t → m' x = m x) → aH i ≤ m' t := fun m' e hm' ag => by
        rcases hm'.1.1 t t48 with q | q
        · omega
        · obtain ⟨i', i1, i2, i3⟩ := q
          rcases Nat.lt_trichotomy i' i with y | y | y
          · exact absurd i3.symm ((h1 i' y i2).2 m' hm' ag)
          · subst y
            omega
          · have := hord i i' y i1
            omega
      have mt : I (j + 5) t = nI (aH i) ↔ m t = aH i := by
        rw [(hpt t t48).1 ht]
        by_cases q : m t = 50
        · rw [if_pos q]
          refine ⟨fun y => ?_, fun y => by omega⟩
          rw [zeq, znI (by omega), show (-1 : Int32).toInt = -1 from rfl] at y
          omega
        · have := (hok _ _ ((hm.1 t t48).resolve_left q)).2.1
          rw [if_neg q]
          exact nI_eq (by omega) (by omega)
      refine vX4_chooseFirstHole_2 hS hj ⟨fun hc => ?_, fun _ => ?_⟩
      · rw [s1] at hc
        exact absurd hc (nI_ge (by omega) (by omega))
      · have pe : p_X4_partnerOf I j (nI t) = I (j + 5) t := pick_in t48 (by decide)
        rw [ic, a1, a2, pe, pick_in (show aH i < 50 by omega) (by decide)]
        refine ⟨fun no => absurd no (nI_ge (b := 576) (by omega) (by omega)), fun _ => ⟨znIin (by omega) (by decide), fun c => ⟨fun d => ⟨fun e => ?_, fun e => ?_⟩, fun d => ?_⟩, fun c => nx (fun q => absurd (by rw [q]) c)⟩⟩
        all_goals have et : aT i = t := (nI_eq (by omega) (by omega)).mp c
        all_goals rw [et] at hF b1 b3 b4 a3
        all_goals have lo : -147 ≤ (I (j + 6) (aH i)).toInt := b_low (jE_ok hok (jFe_op (op := op) hπ)) dn.2.1.1 (u := aH i) (by omega)
        all_goals have up : (I (j + 6) (aH i)).toInt ≤ 1000000 := dn.2.1.1.2.1 (aH i) (by omega)
        all_goals have ea : (I (j + 6) (aH i) = -I (j + 4) i) ↔ (I (j + 6) (aH i)).toInt + w t (aH i) = 0 := (by rw [zeq, zneg (by omega), a3]; omega)
        · rw [ea] at e
          refine nx (fun _ => ⟨fun q => d (mt.mpr q), fun m' hm' ag => ?_⟩)
          exact j_excl hok hπ hopt hm' (fun x hx q => ag x ((hcl x hx).mp q).1) dn.2.1 hF ho (fun q => d (mt.mpr q)) (Or.inr e)
        · rw [ea] at e
          have hn : ¬ m t = aH i := fun q => d (mt.mpr q)
          obtain ⟨n, n1, n2, n3, n4, ⟨r, hr⟩, tig⟩ := j_turn hok hπ dn.2.1 hF ho hn e
          obtain ⟨m', hm'⟩ := rot_ex (jArc na aT aH) m (pOn (fun u => (I (j + 7) u).toNatClampNeg) n (aH i)) (pS (fun u => (I (j + 7) u).toNatClampNeg) t (aH i))
          have hh : jHl (jArc na aT aH) (aH i) := ⟨_, hF⟩
          have th : ¬ t = aH i := fun q => by
            rw [← q] at hh
            obtain ⟨y, hy⟩ := hh
            exact j_tnh hok ht y hy
          refine c_turnOver hS hj hst' n1 n2 n3 n4 (jDone_nx (jE_ok hok (jFe_op (op := op) hπ)) dn (by omega) (by omega) n3) (fun I2 e1 e2 => ⟨rfl, rfl, ZC.of' (vX4_tie_0 hS hj ?_) rfl (Nat.le_of_ble_eq_true rfl) rfl⟩)
          rw [znIc (by omega), znIc (by omega)]
          refine ⟨fun no => absurd no (nI_pos (by omega)), fun _ => ⟨fun no => absurd no (nI_ge (b := 48) t48 (by omega)), fun _ => ⟨fun no => absurd no (nI_pos (by omega)), fun _ => ⟨fun no => absurd no (nI_ge (b := 48) b2 (by omega)), fun _ => ⟨znIin t48 (by decide), znIin b2 (by decide), rfl, rfl, ?_⟩⟩⟩⟩⟩
          have ont : pOn (fun u => (I (j + 7) u).toNatClampNeg) n (aH i) t := ⟨n, by omega, n2⟩
          have st : pS (fun u => (I (j + 7) u).toNatClampNeg) t (aH i) t = aH i := if_pos rfl
          have rh : r (aH i) = t := by rw [← st]; exact (hr.1 t ont).2
          have m2t : m' t = aH i := by rw [hm'.1 t t48 ont ht, st, if_pos b2]
          have keep : ∀ x, x < t → m' x = m x := fun x hx => hm'.2 x (by omega) (fun q => by
            have : op x := by
              rcases j_out_t hok tig q.2 q.1 with ⟨-, y, -⟩ | ⟨-, y, -⟩ <;> exact y
            exact (hcl x (by omega)).mpr ⟨hx, q.2⟩ this)
          refine h _ m' (j_rot_val hok hm hr tig hm') (j_rot_fe hok hm hπ hr tig hm') (j_pt_rot hok hm hpt hr tig hm' (fun x hx tx ox => ?_) (fun x hx hx2 ox => ?_) (fun x hx ox => ?_)) (fun b hb => ?_) keep (fun m'' hm'' ag => by rw [m2t]; exact least1 m'' et hm'' ag)
          · by_cases q : x = t
            · rw [q, st, if_pos b2, u2_ne _ _ _ _ (fun y => th y.2), u2_same]
            · have xh : ¬ x = aH i := fun y => by
                rw [y] at tx
                obtain ⟨z, hz⟩ := tx
                exact j_hnt hok hh z hz
              rw [u2_ne _ _ _ _ (fun y => xh y.2), u2_ne _ _ _ _ (fun y => q y.2)]
              obtain ⟨i', i1, i2⟩ := ox
              have l1 : i' < n := by
                rcases (by omega : i' < n ∨ i' = n) with y | y
                · exact y
                · rw [y, n2] at i2
                  exact absurd i2.symm q
              have l2 : 0 < i' := by
                rcases Nat.eq_zero_or_pos i' with y | y
                · rw [y] at i2
                  exact absurd i2.symm xh
                · exact y
              rw [← i2] at tx ⊢
              exact trn_t hok n2 n3 hr tig e2 l1 l2 tx
          · by_cases q : x = aH i
            · rw [q, rh, u2_same]
              exact ⟨fun _ => rfl, fun y => absurd ht y⟩
            · have xt : ¬ x = t := fun y => by
                rw [y] at hx2
                obtain ⟨z, hz⟩ := hx2
                exact j_tnh hok ht z hz
              rw [u2_ne _ _ _ _ (fun y => q y.2), u2_ne _ _ _ _ (fun y => xt y.2)]
              obtain ⟨i', i1, i2⟩ := ox
              have l1 : i' < n := by
                rcases (by omega : i' < n ∨ i' = n) with y | y
                · exact y
                · rw [y, n2] at i2
                  exact absurd i2.symm xt
              have l2 : 0 < i' := by
                rcases Nat.eq_zero_or_pos i' with y | y
                · rw [y] at i2
                  exact absurd i2.symm q
                · exact y
              rw [← i2] at hx2 ⊢
              exact trn_h hok n2 n3 hr tig e2 l1 l2 hx2
          · have xt : ¬ x = t := fun y => by
              rcases ox with z | z
              · exact z (by rw [y]; exact ont)
              · exact z.1 (by rw [y]; exact ht)
            have xh : ¬ x = aH i := fun y => by
              rcases ox with z | z
              · exact z (by rw [y]; exact ⟨0, by omega, rfl⟩)
              · exact z.2 (by rw [y]; exact hh)
            rw [u2_ne _ _ _ _ (fun y => xh y.2), u2_ne _ _ _ _ (fun y => xt y.2)]
            exact trn_o n3 e2 ox
          · rw [← u2_row _ _ _ _ hb, ← u2_row _ _ _ _ hb]
            exact e1 b hb
        · have e5 := mt.mp d
          exact h I m hm hπ hpt (fun _ _ => rfl) (fun _ _ => rfl) (fun m' hm' ag => by rw [e5]; exact least1 m' et hm' ag)
  exact ZC.of' (vX4_chooseFirstHole_0 hS hj (key na 0 (by omega) (fun i' hi' => absurd hi' (Nat.not_lt_zero _)))) rfl (Nat.le_of_ble_eq_true rfl) rfl
theorem c_chooseHoles {G : Gp} {Q : zPost} {S : zSh} {I : zFI} {L : zFL} {j na : Nat} {aT aH : Nat → Nat} {w : Nat → Nat → Int} {m : Nat → Nat} {π : Nat → Int} (hS : zStd S) (hj : zJn j) (hst : jSt I L j na aT aH w) (hord : ∀ i i', i < i' → i' < na → aT i < aT i' ∨ (aT i = aT i' ∧ aH i < aH i')) (hm : jVal (jArc na aT aH) m) (hpt : jPt I j (jArc na aT aH) m) (hπ : jFe (jArc na aT aH) w jAll m π) (hgap : 1000 ≤ π 48 - π 49) (hcl : L j 7 = 0)
    (h : ∀ I' L' m2, jBest (jArc na aT aH) w m2 → jFe (jArc na aT aH) w jAll m2 π → jPt I' j (jArc na aT aH) m2 → (∀ b, b ≠ j + 5 → b ≠ j + 6 → b ≠ j + 7 → I' b = I b) → (∀ b k, ¬ (b = j ∧ k = 7) → L' b k = L b k) → L' j 7 = 0 → Q none S I' L') : ZC G mX4_chooseHoles fX4_chooseHoles lX4_chooseHoles [zo G j] S I L 0 0 Q := by
  have hok := hst.2.2.2.2
  have key : ∀ (k t : Nat) (J : zFI) (M : zFL) (m : Nat → Nat), t + k = 48 → (∀ b, b ≠ j + 5 → b ≠ j + 6 → b ≠ j + 7 → J b = I b) → (∀ b k, ¬ (b = j ∧ k = 7) → M b k = L b k) → (∀ x, x < 48 → (zhas (M j 7) x ↔ (x < t ∧ jTn (jArc na aT aH) x))) → jVal (jArc na aT aH) m → jFe (jArc na aT aH) w jAll m π → jPt J j (jArc na aT aH) m → (∀ m', jOpt (jArc na aT aH) w m' → jLex t m m') → ZW G mX4_chooseHoles fX4_chooseHoles lX4_chooseHoles 2 [zo G j, .int (nI t)] [] S J M 0 0 Q := by
    intro k
    induction k with
    | zero =>
      intro t J M m ht j1 l1 l2 hm hπ hpt lex
      have : t = 48 := by omega
      subst this
      exact vX4_chooseHoles_2 hS hj ⟨fun _ => h J _ m ⟨j_gap_opt hok hm hπ hgap, lex⟩ hπ hpt j1 (fun b k hbk => by rw [u2_ne _ _ _ _ hbk]; exact l1 b k hbk) (u2_same _ _ _ _), fun hc => absurd (Int32.le_refl _) hc⟩
    | succ k ih =>
      intro t J M m ht j1 l1 l2 hm hπ hpt lex
      have st1 : jSt J M j na aT aH w := jSt_rows hst (by rw [j1 _ (by omega) (by omega) (by omega)]) (j1 _ (by omega) (by omega) (by omega)) (j1 _ (by omega) (by omega) (by omega)) (j1 _ (by omega) (by omega) (by omega)) (l1 _ _ (by omega)) (l1 _ _ (by omega))
      have t48 : t < 48 := by omega
      refine vX4_chooseHoles_2 hS hj ⟨fun hc => absurd hc (show ¬ nI 48 ≤ nI t from nI_ge (by omega) (by omega)), fun _ => ?_⟩
      rw [has_iff (by omega), nI_1]
      refine ⟨fun c => ?_, fun c => ?_⟩
      · have nt : ¬ jTn (jArc na aT aH) t := fun q => c ⟨t48, (st1.2.2.2.1 t t48).1.mpr q⟩
        have none50 : ∀ m', jVal (jArc na aT aH) m' → m' t = 50 := fun m' hm' => Classical.byContradiction (fun q => nt ⟨_, (hm'.1 t t48).resolve_left q⟩)
        refine ih (t + 1) J M m (by omega) j1 l1 (fun x hx => (l2 x hx).trans ⟨fun q => ⟨by omega, q.2⟩, fun q => ⟨?_, q.2⟩⟩) hm hπ hpt (fun m' hm' => ?_)
        · rcases (by omega : x < t ∨ x = t) with y | y
          · exact y
          · rw [y] at q
            exact absurd q.2 nt
        · rcases lex m' hm' with q | ⟨i, i1, i2, i3⟩
          · refine Or.inl (fun x hx => ?_)
            rcases (by omega : x < t ∨ x = t) with y | y
            · exact q x y
            · rw [y, none50 m hm, none50 m' hm'.1]
          · exact Or.inr ⟨i, by omega, i2, i3⟩
      · have c := (Classical.not_not.mp c).2
        have tt : jTn (jArc na aT aH) t := (st1.2.2.2.1 t t48).1.mp c
        have hcl : ∀ x, x < 48 → (¬ (fun x => ¬ (x < t ∧ jTn (jArc na aT aH) x)) x ↔ (x < t ∧ jTn (jArc na aT aH) x)) := fun x _ => Classical.not_not
        refine c_measureTo (op := fun x => ¬ (x < t ∧ jTn (jArc na aT aH) x)) hS hj st1 hm hpt (jFe_op hπ) (fun x hx => (l2 x hx).trans (hcl x hx).symm) (fun x hx q => ?_) (by omega) (fun I1 dn => ⟨rfl, rfl, ?_⟩)
        · obtain ⟨y, hy⟩ := hx
          exact j_tnh hok q.2 y hy
        have st2 : jSt I1 M j na aT aH w := jSt_rows st1 (by rw [dn.1 _ (by omega) (by omega)]) (dn.1 _ (by omega) (by omega)) (dn.1 _ (by omega) (by omega)) (dn.1 _ (by omega) (by omega)) rfl rfl
        refine c_chooseFirst hS hj st2 hord hm (jPt_rows hpt (dn.1 _ (by omega) (by omega))) hπ hgap hcl dn tt (fun I2 m2 v2 f2 p2 r2 k2 min2 => ⟨rfl, rfl, ?_⟩)
        refine ih (t + 1) I2 _ m2 (by omega) (fun b h5 h6 h7 => (r2 b h5).trans ((dn.1 b h6 h7).trans (j1 b h5 h6 h7))) (fun b k hbk => by rw [u2_ne _ _ _ _ hbk]; exact l1 b k hbk) (fun x hx => ?_) v2 f2 p2 (fun m' hm' => ?_)
        · rw [u2_same, zhas_or (by omega) (by omega), l2 x hx]
          constructor
          · rintro (q | q)
            · exact ⟨by omega, q.2⟩
            · rw [q]
              exact ⟨by omega, tt⟩
          · rintro ⟨q1, q2⟩
            rcases (by omega : x < t ∨ x = t) with y | y
            · exact Or.inl ⟨y, q2⟩
            · exact Or.inr y
        · rcases lex m' hm' with q | ⟨i, i1, i2, i3⟩
          · have le := min2 m' hm' (fun x hx => (q x hx).symm)
            rcases Nat.lt_or_ge (m2 t) (m' t) with y | y
            · exact Or.inr ⟨t, by omega, fun x hx => (k2 x hx).trans (q x hx), y⟩
            · refine Or.inl (fun x hx => ?_)
              rcases (by omega : x < t ∨ x = t) with z | z
              · exact (k2 x z).trans (q x z)
              · rw [z]
                omega
          · exact Or.inr ⟨i, by omega, fun x hx => (k2 x (by omega)).trans (i2 x hx), by rw [k2 i i1]; exact i3⟩
  refine ZC.of' (vX4_chooseHoles_0 hS hj (key 48 0 I L m (by omega) (fun _ _ _ _ => rfl) (fun _ _ _ => rfl) (fun x hx => ?_) hm hπ hpt (fun m' _ => Or.inl (fun i hi => absurd hi (Nat.not_lt_zero _))))) rfl (Nat.le_of_ble_eq_true rfl) rfl
  rw [hcl]
  exact ⟨fun q => absurd q (zhas_0 x), fun q => absurd q.1 (Nat.not_lt_zero _)⟩
