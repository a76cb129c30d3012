section
variable {F : Nat → Nat → Prop} {w : Nat → Nat → Int} {op : Nat → Prop} {m : Nat → Nat} {π : Nat → Int} {nx r : Nat → Nat} {a z k : Nat} {P A : Nat → Int32}
theorem p_s (hmin : ∀ i, i < k → ¬ it nx i a = z) {i : Nat} (hi : i < k) : pS nx z a (it nx i a) = it nx (i + 1) a := by
  unfold pS
  rw [if_neg (hmin i hi), it_succ]
theorem p_r (hmin : ∀ i, i < k → ¬ it nx i a = z) (hc : jCyc (pOn nx k a) (pS nx z a) r) {i : Nat} (hi : i < k) : r (it nx (i + 1) a) = it nx i a := by
  rw [← p_s hmin hi]
  exact (hc.1 _ ⟨i, by omega, rfl⟩).2
theorem trn_t (hok : jOk F w) (hz : it nx k a = z) (hmin : ∀ i, i < k → ¬ it nx i a = z) (hc : jCyc (pOn nx k a) (pS nx z a) r) (hg : jTig F w op m π (pOn nx k a) (pS nx z a)) (h : jTrn F P A (fun i => it nx i a) k) {i : Nat} (hi : i < k) (hi0 : 0 < i) (ht : jTn F (it nx i a)) :
    A (it nx i a) = if pS nx z a (it nx i a) < 48 then nI (pS nx z a (it nx i a)) else -1 := by
  have on : pOn nx k a (it nx i a) := ⟨i, by omega, rfl⟩
  have es := p_s hmin hi
  have dist := it_dist hz hmin
  rcases j_out_t hok hg ht on with ⟨b1, b2, b3, b4⟩ | ⟨b1, b2, b3, b4⟩
  · have := (hok _ _ b1).2.1
    rw [if_pos this, es]
    rw [es] at b1
    exact (h.1 i hi ht ⟨_, b1⟩).1
  · rw [if_neg (by omega)]
    have er : r (it nx i a) = it nx (i - 1) a := by
      have := p_r hmin hc (i := i - 1) (by omega)
      rw [show i - 1 + 1 = i by omega] at this
      exact this
    rcases j_in_t hok hc hg ht on with ⟨c1, c2, c3, c4⟩ | ⟨c1, c2, c3, c4⟩
    · refine (h.2 _ (fun i' hi' t1 t2 => ⟨fun q => ?_, fun q => ?_⟩)).1 ⟨i - 1, by omega, ?_, ?_, Or.inr ?_⟩
      · have := dist i i' (by omega) (by omega) q
        subst this
        have := j_hlt hok t2
        have e2 : it nx (i + 1) a = 48 := es.symm.trans b1
        have : it nx (i + 1) a < 48 := this
        omega
      · obtain ⟨y, hy⟩ := t2
        have q : it nx i a = it nx (i' + 1) a := q
        have hy : F y (it nx (i' + 1) a) := hy
        rw [← q] at hy
        exact j_tnh hok ht y hy
      · rw [er] at c1
        exact ⟨_, c1⟩
      · show jTn F (it nx (i - 1 + 1) a)
        rw [show i - 1 + 1 = i by omega]
        exact ht
      · show it nx i a = it nx (i - 1 + 1) a
        rw [show i - 1 + 1 = i by omega]
    · exact absurd c3 b3
theorem trn_h (hok : jOk F w) (hz : it nx k a = z) (hmin : ∀ i, i < k → ¬ it nx i a = z) (hc : jCyc (pOn nx k a) (pS nx z a) r) (hg : jTig F w op m π (pOn nx k a) (pS nx z a)) (h : jTrn F P A (fun i => it nx i a) k) {i : Nat} (hi : i < k) (hi0 : 0 < i) (hh : jHl F (it nx i a)) :
    (jTn F (r (it nx i a)) → A (it nx i a) = nI (r (it nx i a))) ∧ (¬ jTn F (r (it nx i a)) → A (it nx i a) = -1) := by
  have on : pOn nx k a (it nx i a) := ⟨i, by omega, rfl⟩
  have es := p_s hmin hi
  have dist := it_dist hz hmin
  have ei : i - 1 + 1 = i := by omega
  have er : r (it nx i a) = it nx (i - 1) a := by
    have := p_r hmin hc (i := i - 1) (by omega)
    rw [ei] at this
    exact this
  rw [er]
  refine ⟨fun t => ?_, fun t => ?_⟩
  · have := (h.1 (i - 1) (by omega) t (by show jHl F (it nx (i - 1 + 1) a); rw [ei]; exact hh)).2
    have this : A (it nx (i - 1 + 1) a) = nI (it nx (i - 1) a) := this
    rw [ei] at this
    exact this
  · rcases j_in_h hok hc hg hh on with ⟨c1, -⟩ | ⟨c1, c2, c3⟩
    · rw [er] at c1
      exact absurd ⟨_, c1⟩ t
    · rcases j_out_h hok hg hh on with ⟨b1, b2, b3, b4⟩ | ⟨b1, b2, b3⟩
      · refine (h.2 _ (fun i' hi' t1 t2 => ⟨fun q => ?_, fun q => ?_⟩)).1 ⟨i, hi, hh, ?_, Or.inl rfl⟩
        · have q : it nx i a = it nx i' a := q
          have t1 : jTn F (it nx i' a) := t1
          rw [← q] at t1
          obtain ⟨y, hy⟩ := t1
          exact j_hnt hok hh y hy
        · have := dist i (i' + 1) (by omega) (by omega) q
          have e : i' = i - 1 := by omega
          rw [e] at t1
          exact t t1
        · rw [es] at b1
          exact ⟨_, b1⟩
      · exact absurd b2 c2
theorem trn_o (hmin : ∀ i, i < k → ¬ it nx i a = z) (h : jTrn F P A (fun i => it nx i a) k) {x : Nat} (hx : ¬ pOn nx k a x ∨ (¬ jTn F x ∧ ¬ jHl F x)) : A x = P x := by
  refine (h.2 x (fun i hi t1 t2 => ⟨fun q => ?_, fun q => ?_⟩)).2 (fun i hi t1 t2 => ⟨fun q => ?_, fun q => ?_⟩)
  · rcases hx with c | c
    · exact c ⟨i, by omega, q.symm⟩
    · exact c.1 (by rw [q]; exact t1)
  · rcases hx with c | c
    · exact c ⟨i + 1, by omega, q.symm⟩
    · exact c.2 (by rw [q]; exact t2)
  · rcases hx with c | c
    · exact c ⟨i, by omega, q.symm⟩
    · exact c.2 (by rw [q]; exact t1)
  · rcases hx with c | c
    · exact c ⟨i + 1, by omega, q.symm⟩
    · exact c.1 (by rw [q]; exact t2)
theorem rot_ex (F : Nat → Nat → Prop) (m : Nat → Nat) (on : Nat → Prop) (s : Nat → Nat) : ∃ m', jRot F m m' on s := by
  have dec := fun x => Classical.propDecidable (on x ∧ jTn F x)
  refine ⟨fun x => @ite _ (on x ∧ jTn F x) (dec x) (if s x < 48 then s x else 50) (m x), ?_, ?_⟩
  · intro x _ h1 h2
    exact @if_pos _ (dec x) ⟨h1, h2⟩ _ _ _
  · intro x _ h1
    exact @if_neg _ (dec x) h1 _ _ _
end
theorem jSt_rows {I I' : zFI} {L L' : zFL} {j na : Nat} {aT aH : Nat → Nat} {w : Nat → Nat → Int} (h : jSt I L j na aT aH w) (e0 : I' j 4 = I j 4) (e2 : I' (j + 2) = I (j + 2)) (e3 : I' (j + 3) = I (j + 3)) (e4 : I' (j + 4) = I (j + 4)) (l5 : L' j 5 = L j 5) (l6 : L' j 6 = L j 6) : jSt I' L' j na aT aH w := by
  unfold jSt at *
  rw [e0, e2, e3, e4, l5, l6]
  exact h
theorem jPt_rows {I I' : zFI} {j : Nat} {F : Nat → Nat → Prop} {m : Nat → Nat} (h : jPt I j F m) (e : I' (j + 5) = I (j + 5)) : jPt I' j F m := by
  unfold jPt at *
  rw [e]
  exact h
/-- the next ones on the way are numbers of nodes -/
theorem jDone_nx {I0 I : zFI} {j z a k : Nat} {E : Nat → Nat → Int → Prop} {π : Nat → Int} (hE : bOk E π) (h : jDone I0 I j z E) (ha : a < 50) (hd : ¬ (I (j + 6) a).toInt = 1000000) (hmin : ∀ i, i < k → ¬ it (fun u => (I (j + 7) u).toNatClampNeg) i a = z) : ∀ i, i < k → I (j + 7) (it (fun u => (I (j + 7) u).toNatClampNeg) i a) = nI (it (fun u => (I (j + 7) u).toNatClampNeg) (i + 1) a) := by
  intro i hi
  have b := b_mono hE h.2.1.1 ha hd (k := i) (fun i' hi' => hmin i' (by omega))
  have := h.2.2 _ b.1 b.2.1 (hmin i hi)
  rw [it_succ]
  obtain ⟨n, n1, n2⟩ := zof this
  rw [n2, znIc n1]
theorem c_fillJ {G : Gp} {Q : zPost} {S : zSh} {I : zFI} {L : zFL} {j na : Nat} {aT aH : Nat → Nat} {w : Nat → Nat → Int} (hS : zStd S) (hj : zJn j) (hst : jSt I L j na aT aH w) (hp0 : ∀ x, x < 48 → I (j + 5) x = -1) (hcl : L j 7 = 0)
    (h : ∀ I' m π, jVal (jArc na aT aH) m → jFe (jArc na aT aH) w jAll m π → 1000 ≤ π 48 - π 49 → jPt I' j (jArc na aT aH) m → (∀ b, b ≠ j + 5 → b ≠ j + 6 → b ≠ j + 7 → I' b = I b) → Q none S I' L) : ZC G mX4_fill fX4_fill lX4_fill [zo G j] S I L 0 0 Q := by
  have hok := hst.2.2.2.2
  have hop : ∀ x, x < 48 → (zhas (L j 7) x ↔ ¬ jAll x) := fun x _ => by
    rw [hcl]
    exact ⟨fun q => absurd q (zhas_0 x), fun q => absurd trivial q⟩
  have key : ∀ (k i : Nat) (J : zFI) (m : Nat → Nat) (π : Nat → Int), i + k = 48 → (∀ b, b ≠ j + 5 → b ≠ j + 6 → b ≠ j + 7 → J b = I b) → jVal (jArc na aT aH) m → jFe (jArc na aT aH) w jAll m π → jPt J j (jArc na aT aH) m → i ≤ zcnt (fun t => decide (¬ m t = 50)) 48 → ZW G mX4_fill fX4_fill lX4_fill 2 [zo G j, .int (nI i)] [] S J L 0 0 Q := by
    intro k
    induction k with
    | zero =>
      intro i J m π hi j1 j2 j3 j4 j5
      exfalso
      have full : ∀ n, n ≤ zcnt (fun t => decide (¬ m t = 50)) n → ∀ t, t < n → ¬ m t = 50 := by
        intro n
        induction n with
        | zero => intro _ t ht; exact absurd ht (Nat.not_lt_zero _)
        | succ n ih =>
          intro hn t ht
          rw [zcnt_succ] at hn
          have le := zcnt_le (fun t => decide (¬ m t = 50)) n
          by_cases c : decide (¬ m n = 50) = true
          · rw [if_pos c] at hn
            rcases (by omega : t < n ∨ t = n) with q | q
            · exact ih (by omega) t q
            · rw [q]
              exact of_decide_eq_true c
          · rw [if_neg c] at hn
            omega
      have all := full 48 (by omega)
      have f0 := (j2.1 0 (by omega)).resolve_left (all 0 (by omega))
      have b := hok _ _ f0
      have f1 := (j2.1 (m 0) b.2.1).resolve_left (all _ b.2.1)
      exact b.2.2.2.2.1 _ f1
    | succ k ih =>
      intro i J m π hi j1 j2 j3 j4 j5
      have st1 : jSt J L j na aT aH w := jSt_rows hst (by rw [j1 _ (by omega) (by omega) (by omega)]) (j1 _ (by omega) (by omega) (by omega)) (j1 _ (by omega) (by omega) (by omega)) (j1 _ (by omega) (by omega) (by omega)) rfl rfl
      refine vX4_fill_2 hS hj ⟨fun hc => absurd hc (show ¬ nI 48 ≤ nI i from nI_ge (by omega) (by omega)), fun _ => c_measureTo (z := 49) hS hj st1 j2 j4 j3 hop (fun _ _ => trivial) (by omega) (fun I1 dn => ⟨rfl, rfl, ?_⟩)⟩
      have st2 : jSt I1 L j na aT aH w := jSt_rows st1 (by rw [dn.1 _ (by omega) (by omega)]) (dn.1 _ (by omega) (by omega)) (dn.1 _ (by omega) (by omega)) (dn.1 _ (by omega) (by omega)) rfl rfl
      have pt2 : jPt I1 j (jArc na aT aH) m := jPt_rows j4 (dn.1 _ (by omega) (by omega))
      have r1 : ∀ b, b ≠ j + 5 → b ≠ j + 6 → b ≠ j + 7 → I1 b = I b := fun b h5 h6 h7 => (dn.1 b h6 h7).trans (j1 b h5 h6 h7)
      have far : I1 (j + 6) (48 : Int32).toNatClampNeg = 1000000 ↔ (I1 (j + 6) 48).toInt = 1000000 := zeq
      rw [far]
      refine ⟨fun c => ?_, fun c => ?_⟩
      · obtain ⟨n, π', n1, n2, n3, n4, ⟨r, hr⟩, tig, fe⟩ := j_aug hok j2 j3 dn.2.1 c
        obtain ⟨m', hm'⟩ := rot_ex (jArc na aT aH) m (pOn (fun u => (I1 (j + 7) u).toNatClampNeg) n 48) (pS (fun u => (I1 (j + 7) u).toNatClampNeg) 49 48)
        refine c_turnOver (a := 48) (z := 49) hS hj st2 n1 n2 n3 n4 (jDone_nx (jE_ok hok j3) dn (by omega) c n3) (fun I2 e1 e2 => ⟨rfl, rfl, ?_⟩)
        rw [nI_1]
        have v2 := j_rot_val hok j2 hr tig hm'
        refine ih (i + 1) I2 m' π' (by omega) (fun b h5 h6 h7 => (e1 b h5).trans (r1 b h5 h6 h7)) v2 (j_rot_fe hok j2 fe hr tig hm') ?_ ?_
        · have lt : ∀ x i', x < 48 → i' ≤ n → it (fun u => (I1 (j + 7) u).toNatClampNeg) i' 48 = x → i' < n ∧ 0 < i' := fun x i' hx hi' he => by
            constructor
            · rcases (by omega : i' < n ∨ i' = n) with q | q
              · exact q
              · rw [q, n2] at he
                omega
            · rcases Nat.eq_zero_or_pos i' with q | q
              · rw [q] at he
                have : 48 = x := he
                omega
              · exact q
          refine j_pt_rot hok j2 pt2 hr tig hm' (fun x hx ht ho => ?_) (fun x hx hh ho => ?_) (fun x hx ho => trn_o n3 e2 ho)
          · obtain ⟨i', i1, i2⟩ := ho
            obtain ⟨l1, l2⟩ := lt x i' hx i1 i2
            rw [← i2] at ht ⊢
            exact trn_t hok n2 n3 hr tig e2 l1 l2 ht
          · obtain ⟨i', i1, i2⟩ := ho
            obtain ⟨l1, l2⟩ := lt x i' hx i1 i2
            rw [← i2] at hh ⊢
            exact trn_h hok n2 n3 hr tig e2 l1 l2 hh
        · -- one more is matched
          have on48 : pOn (fun u => (I1 (j + 7) u).toNatClampNeg) n 48 48 := ⟨0, by omega, rfl⟩
          have n0 : 0 < n := by
            rcases Nat.eq_zero_or_pos n with q | q
            · rw [q] at n2
              have n2 : 48 = 49 := n2
              omega
            · exact q
          have s48 := p_s n3 n0
          have on49 : pOn (fun u => (I1 (j + 7) u).toNatClampNeg) n 48 49 := ⟨n, by omega, n2⟩
          have s49 : pS (fun u => (I1 (j + 7) u).toNatClampNeg) 49 48 49 = 48 := if_pos rfl
          have keep : ∀ t, t < 48 → ¬ m t = 50 → ¬ m' t = 50 := fun t ht hmt q => by
            by_cases o : pOn (fun u => (I1 (j + 7) u).toNatClampNeg) n 48 t ∧ jTn (jArc na aT aH) t
            · rcases j_out_t hok tig o.2 o.1 with ⟨b1, -⟩ | ⟨b1, -⟩
              · have e := hm'.1 t ht o.1 o.2
                rw [if_pos (hok _ _ b1).2.1] at e
                have := (hok _ _ b1).2.1
                omega
              · have e1 := (hr.1 _ o.1).2
                have e2 := (hr.1 _ on49).2
                rw [s49] at e2
                rw [b1, e2] at e1
                omega
            · rw [hm'.2 t ht o] at q
              exact hmt q
          have new : ∃ t, t < 48 ∧ m t = 50 ∧ ¬ m' t = 50 := by
            have os := (hr.1 _ on48).1
            rcases tig 48 on48 with ⟨q, -⟩ | ⟨c', (⟨b1, b2, b3, b4⟩ | ⟨b1, b2, b3, b4⟩ | ⟨b1, b2, b3, b4, b5⟩ | ⟨b1, b2, b3, b4, b5⟩ | ⟨b1, b2, b3, b4⟩ | ⟨b1, b2, b3, b4⟩), -⟩
            · omega
            · have := (hok _ _ b1).1
              omega
            · have := (hok _ _ b1).2.1
              omega
            · have t48 := j_tlt hok b2
              refine ⟨_, t48, b4, fun q => ?_⟩
              have e := hm'.1 _ t48 os b2
              rw [q] at e
              rcases j_out_t hok tig b2 os with ⟨d1, -⟩ | ⟨-, -, d1, -⟩
              · have := (hok _ _ d1).2.1
                rw [if_pos this] at e
                omega
              · exact d1 b4
            · have := j_tlt hok b2
              omega
            · have := j_hlt hok b2
              omega
            · omega
          have more : ∀ N, N ≤ 48 → zcnt (fun t => decide (¬ m t = 50)) N + (if ∃ t, t < N ∧ m t = 50 ∧ ¬ m' t = 50 then 1 else 0) ≤ zcnt (fun t => decide (¬ m' t = 50)) N := by
            intro N
            induction N with
            | zero =>
              intro _
              rw [if_neg (by rintro ⟨t, h1, -⟩; exact Nat.not_lt_zero _ h1)]
              exact Nat.le_refl _
            | succ N ihN =>
              intro hN
              have i1 := ihN (by omega)
              rw [zcnt_succ, zcnt_succ]
              by_cases c1 : m N = 50
              · rw [if_neg (show ¬ decide (¬ m N = 50) = true by simp [c1])]
                by_cases c2 : m' N = 50
                · rw [if_neg (show ¬ decide (¬ m' N = 50) = true by simp [c2])]
                  have : (∃ t, t < N + 1 ∧ m t = 50 ∧ ¬ m' t = 50) ↔ (∃ t, t < N ∧ m t = 50 ∧ ¬ m' t = 50) := by
                    constructor
                    · rintro ⟨t, h1, h2, h3⟩
                      refine ⟨t, ?_, h2, h3⟩
                      rcases (by omega : t < N ∨ t = N) with q | q
                      · exact q
                      · rw [q] at h3
                        exact absurd c2 h3
                    · rintro ⟨t, h1, h2⟩
                      exact ⟨t, by omega, h2⟩
                  simp only [this]
                  exact i1
                · rw [if_pos (show decide (¬ m' N = 50) = true by simp [c2])]
                  split <;> omega
              · have c2 := keep N (by omega) c1
                rw [if_pos (show decide (¬ m N = 50) = true by simp [c1]), if_pos (show decide (¬ m' N = 50) = true by simp [c2])]
                have : (∃ t, t < N + 1 ∧ m t = 50 ∧ ¬ m' t = 50) ↔ (∃ t, t < N ∧ m t = 50 ∧ ¬ m' t = 50) := by
                  constructor
                  · rintro ⟨t, h1, h2, h3⟩
                    refine ⟨t, ?_, h2, h3⟩
                    rcases (by omega : t < N ∨ t = N) with q | q
                    · exact q
                    · rw [q] at h2
                      exact absurd h2 c1
                  · rintro ⟨t, h1, h2⟩
                    exact ⟨t, by omega, h2⟩
                simp only [this]
                omega
          have := more 48 (Nat.le_refl _)
          rw [if_pos new] at this
          omega
      · obtain ⟨π', f1, f2⟩ := j_full hok j3 dn.2.1 c
        exact h I1 m π' j2 f1 f2 pt2 r1
  refine ZC.of' (vX4_fill_0 hS hj (key 48 0 I (fun _ => 50) (fun _ => 0) (by omega) (fun _ _ _ _ => rfl) ⟨fun t _ => Or.inl rfl, fun t t' _ _ q => absurd rfl q⟩ (fun u v c hE => ?_) (fun x hx => ⟨fun _ => ?_, fun _ => ⟨fun _ => hp0 x hx, fun t _ q => ?_⟩, fun _ _ => hp0 x hx⟩) (Nat.zero_le _))) rfl (Nat.le_of_ble_eq_true rfl) rfl
  · show (0 : Int) ≤ c + 0
    rcases hE with ⟨a1, a2, a3, a4⟩ | ⟨a1, a2, a3, a4⟩ | ⟨a1, a2, a3, a4, a5⟩ | ⟨a1, a2, a3, a4, a5⟩ | ⟨a1, a2, a3, a4⟩ | ⟨a1, a2, a3, a4⟩
    · have := hok _ _ a1
      omega
    · have := (hok _ _ a1).2.1
      have a3 : 50 = u := a3
      omega
    · omega
    · exact absurd rfl a4
    · omega
    · omega
  · rw [if_pos rfl]
    exact hp0 x hx
  · have q : 50 = x := q
    omega
