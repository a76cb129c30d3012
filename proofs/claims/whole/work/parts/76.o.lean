/-- edges by the ends of the first n joints -/
def jPe (F : Nat → Nat → Prop) (op : Nat → Prop) (m : Nat → Nat) (n : Nat) (a b : Nat) (k : Int) : Prop :=
  ∃ x, x < n ∧ ((a = 48 ∧ b = x ∧ jTn F x ∧ op x ∧ m x = 50 ∧ k = 0) ∨ (a = x ∧ b = 48 ∧ jTn F x ∧ op x ∧ ¬ m x = 50 ∧ k = 0) ∨ (a = x ∧ b = 49 ∧ jHl F x ∧ jFr m x ∧ k = 0) ∨ (a = 49 ∧ b = x ∧ jHl F x ∧ ¬ jFr m x ∧ k = 0))
theorem jE_parts {w : Nat → Nat → Int} {op : Nat → Prop} {m aT aH : Nat → Nat} {na u v : Nat} {c : Int} (hok : jOk (jArc na aT aH) w) (h : jE (jArc na aT aH) w op m u v c) : jPa w op m aT aH na u v c ∨ jPe (jArc na aT aH) op m 48 u v c := by
  rcases h with ⟨a1, a2, a3, a4⟩ | ⟨a1, a2, a3, a4⟩ | ⟨a1, a2, a3, a4, a5⟩ | ⟨a1, a2, a3, a4, a5⟩ | ⟨a1, a2, a3, a4⟩ | ⟨a1, a2, a3, a4⟩
  · obtain ⟨i, i1, i2, i3⟩ := a1
    exact Or.inl ⟨i, i1, Or.inl ⟨i2, i3, a2, a3, a4⟩⟩
  · obtain ⟨i, i1, i2, i3⟩ := a1
    exact Or.inl ⟨i, i1, Or.inr ⟨i3, i2, a2, a3, a4⟩⟩
  · exact Or.inr ⟨v, j_tlt hok a2, Or.inl ⟨a1, rfl, a2, a3, a4, a5⟩⟩
  · exact Or.inr ⟨u, j_tlt hok a2, Or.inr (Or.inl ⟨rfl, a1, a2, a3, a4, a5⟩)⟩
  · exact Or.inr ⟨u, j_hlt hok a2, Or.inr (Or.inr (Or.inl ⟨rfl, a1, a2, a3, a4⟩))⟩
  · exact Or.inr ⟨v, j_hlt hok a2, Or.inr (Or.inr (Or.inr ⟨a1, rfl, a2, a3, a4⟩))⟩
theorem jPt_free {I : zFI} {j x : Nat} {F : Nat → Nat → Prop} {w : Nat → Nat → Int} {m : Nat → Nat} (hok : jOk F w) (hm : jVal F m) (h : jPt I j F m) (hx : x < 48) : (jTn F x → (I (j + 5) x = -1 ↔ m x = 50)) ∧ (jHl F x → (I (j + 5) x = -1 ↔ jFr m x)) := by
  have neg : ∀ k, k < 50 → ¬ nI k = -1 := fun k hk q => by
    rw [zeq, znI (by omega), show (-1 : Int32).toInt = -1 from rfl] at q
    omega
  obtain ⟨h1, h2, h3⟩ := h x hx
  refine ⟨fun ht => ?_, fun hh => ?_⟩
  · rw [h1 ht]
    by_cases c : m x = 50
    · rw [if_pos c]
      exact ⟨fun _ => c, fun _ => rfl⟩
    · rw [if_neg c]
      have := (hok _ _ ((hm.1 x hx).resolve_left c)).2.1
      exact ⟨fun q => absurd q (neg _ (by omega)), fun q => absurd q c⟩
  · refine ⟨fun q t ht hmt => ?_, (h2 hh).1⟩
    rw [(h2 hh).2 t ht hmt] at q
    exact neg t (by omega) q
theorem c_relaxEnds {G : Gp} {Q : zPost} {S : zSh} {I0 I : zFI} {L : zFL} {j na z : Nat} {aT aH : Nat → Nat} {w : Nat → Nat → Int} {op : Nat → Prop} {m : Nat → Nat} {π d0 : Nat → Int} {P : Nat → Nat → Int → Prop} {f : Bool} (hS : zStd S) (hj : zJn j) (hst : jSt I0 L j na aT aH w) (hm : jVal (jArc na aT aH) m) (hpt : jPt I0 j (jArc na aT aH) m) (hE : bOk (jE (jArc na aT aH) w op m) π) (hop : ∀ x, x < 48 → (zhas (L j 7) x ↔ ¬ op x)) (hoh : ∀ x, jHl (jArc na aT aH) x → op x) (hd0 : ∀ u, u < 50 → d0 u ≤ 1000000)
    (hb : bS I0 I j (jE (jArc na aT aH) w op m) z d0 P f) (h : ∀ I' g, bS I0 I' j (jE (jArc na aT aH) w op m) z d0 (fun a b k => P a b k ∨ jPe (jArc na aT aH) op m 48 a b k) (f || g) → Q (some (.int (bI g))) S I' L) : ZC G mX4_relaxEnds fX4_relaxEnds lX4_relaxEnds [zo G j] S I L 0 0 Q := by
  obtain ⟨s1, s2, s3, s4, s5⟩ := hst
  generalize hF : jArc na aT aH = F at *
  have key : ∀ (k x : Nat) (J : zFI) (g : Bool), x + k = 48 → bS I0 J j (jE F w op m) z d0 (fun a b k => P a b k ∨ jPe F op m x a b k) (f || g) → ZW G mX4_relaxEnds fX4_relaxEnds lX4_relaxEnds 4 [zo G j, .int (bI g), .int (nI x), .null] [] S J L 0 0 Q := by
    intro k
    induction k with
    | zero =>
      intro x J g hx hJ
      have : x = 48 := by omega
      subst this
      exact vX4_relaxEnds_4 hS hj ⟨fun _ => ⟨bI_n g, h J g hJ⟩, fun hc => absurd (Int32.le_refl _) hc⟩
    | succ k ih =>
      intro x J g hx hJ
      have xc : (nI x).toNatClampNeg = x := znIc (by omega)
      have h48 : x < 48 := by omega
      obtain ⟨q5, q6⟩ := s4 x h48
      have e5 : J (j + 5) x = I0 (j + 5) x := by rw [hJ.1 _ (by omega) (by omega)]
      obtain ⟨fr1, fr2⟩ := jPt_free s5 hm hpt h48
      have nx : ∀ (K : zFI) (b : Bool), bS I0 K j (jE F w op m) z d0 (fun a b k => P a b k ∨ jPe F op m (x + 1) a b k) (f || b) → ZW G mX4_relaxEnds fX4_relaxEnds lX4_relaxEnds 4 [zo G j, .int (bI b), .int (nI x + 1), .null] [] S K L 0 0 Q := fun K b hK => by
        rw [nI_1]
        exact ih (x + 1) K b (by omega) hK
      have nx1 : ∀ (K : zFI), bS I0 K j (jE F w op m) z d0 (fun a b k => P a b k ∨ jPe F op m (x + 1) a b k) true → ZW G mX4_relaxEnds fX4_relaxEnds lX4_relaxEnds 4 [zo G j, .int 1, .int (nI x + 1), .null] [] S K L 0 0 Q := fun K hK => nx K true (by rw [Bool.or_true]; exact hK)
      have fl : bS I0 J j (jE F w op m) z d0 (fun a b k => P a b k ∨ jPe F op m (x + 1) a b k) (f || g) → (bI g = 0 → ZW G mX4_relaxEnds fX4_relaxEnds lX4_relaxEnds 4 [zo G j, .int 0, .int (nI x + 1), .null] [] S J L 0 0 Q) ∧ (¬ bI g = 0 → ZW G mX4_relaxEnds fX4_relaxEnds lX4_relaxEnds 4 [zo G j, .int 1, .int (nI x + 1), .null] [] S J L 0 0 Q) := fun hK => by
        have := nx J g hK
        cases g
        · exact ⟨fun _ => this, fun q => absurd rfl q⟩
        · exact ⟨fun q => absurd q (by decide), fun _ => this⟩
      -- one edge at x
      have grow : ∀ (u v : Nat), (∀ (a b : Nat) (k : Int), (((a = 48 ∧ b = x ∧ jTn F x ∧ op x ∧ m x = 50 ∧ k = 0) ∨ (a = x ∧ b = 48 ∧ jTn F x ∧ op x ∧ ¬ m x = 50 ∧ k = 0) ∨ (a = x ∧ b = 49 ∧ jHl F x ∧ jFr m x ∧ k = 0) ∨ (a = 49 ∧ b = x ∧ jHl F x ∧ ¬ jFr m x ∧ k = 0)) → a = u ∧ b = v ∧ k = 0)) → ∀ a b k, (P a b k ∨ jPe F op m (x + 1) a b k) → (P a b k ∨ jPe F op m x a b k) ∨ (a = u ∧ b = v ∧ k = (0 : Int32).toInt) := fun u v hu a b k hp => by
        rcases hp with hp | ⟨y, y1, y2⟩
        · exact Or.inl (Or.inl hp)
        · rcases (by omega : y < x ∨ y = x) with z | z
          · exact Or.inl (Or.inr ⟨y, z, y2⟩)
          · subst z
            exact Or.inr (hu a b k y2)
      have none : (∀ (a b : Nat) (k : Int), ¬ ((a = 48 ∧ b = x ∧ jTn F x ∧ op x ∧ m x = 50 ∧ k = 0) ∨ (a = x ∧ b = 48 ∧ jTn F x ∧ op x ∧ ¬ m x = 50 ∧ k = 0) ∨ (a = x ∧ b = 49 ∧ jHl F x ∧ jFr m x ∧ k = 0) ∨ (a = 49 ∧ b = x ∧ jHl F x ∧ ¬ jFr m x ∧ k = (0 : Int)))) → ZW G mX4_relaxEnds fX4_relaxEnds lX4_relaxEnds 4 [zo G j, .int (bI g), .int (nI x + 1), .null] [] S J L 0 0 Q := fun hn => nx J g (bS_mono hJ (fun a b k hp => by
        rcases hp with hp | ⟨y, y1, y2⟩
        · exact Or.inl hp
        · rcases (by omega : y < x ∨ y = x) with z | z
          · exact Or.inr ⟨y, z, y2⟩
          · subst z
            exact absurd y2 (hn a b k)))
      refine vX4_relaxEnds_4 hS hj ⟨fun hc => absurd hc (show ¬ nI 48 ≤ nI x from nI_ge (by omega) (by omega)), fun _ => ?_⟩
      rw [xc, has_iff (by omega), has_iff (by omega), has_iff (by omega), e5]
      refine ⟨fun c => ⟨znIin h48 (by decide), fun d => ⟨fun t5 => ⟨fun t6 => none ?_, fun t6 => ⟨fun _ => ?_, fun q => absurd rfl q⟩⟩, fun t5 => ⟨fun _ => ?_, fun q => absurd rfl q⟩⟩, fun d => ⟨fun t5 => ⟨fun t6 => none ?_, fun t6 => ⟨fun q => absurd q (by decide), fun _ => ?_⟩⟩, fun t5 => ⟨fun q => absurd q (by decide), fun _ => ?_⟩⟩⟩, fun c => none ?_⟩
      · have nt : ¬ jTn F x := fun q => t5 ⟨h48, q5.mpr q⟩
        have nh : ¬ jHl F x := fun q => t6 ⟨h48, q6.mpr q⟩
        rintro a b k (⟨-, -, q, -⟩ | ⟨-, -, q, -⟩ | ⟨-, -, q, -⟩ | ⟨-, -, q, -⟩)
        · exact nt q
        · exact nt q
        · exact nh q
        · exact nh q
      · have nt : ¬ jTn F x := fun q => t5 ⟨h48, q5.mpr q⟩
        have hh : jHl F x := q6.mp (Classical.not_not.mp t6).2
        have nf : ¬ jFr m x := fun q => d ((fr2 hh).mpr q)
        refine c_relax (u := 49) (v := x) (P' := fun a b k => P a b k ∨ jPe F op m (x + 1) a b k) hS hj hE hd0 hJ (Or.inr (Or.inr (Or.inr (Or.inr (Or.inr ⟨rfl, hh, nf, rfl⟩))))) (grow 49 x ?_) (fun q => ⟨_, rfl, rfl, fun z => absurd rfl z, fun _ => fl q⟩) (fun K q => ⟨_, rfl, rfl, fun _ => nx1 K q, fun z => absurd z (by decide)⟩)
        rintro a b k (⟨-, -, q, -⟩ | ⟨-, -, q, -⟩ | ⟨-, -, -, q, -⟩ | ⟨y1, y2, -, -, y3⟩)
        · exact absurd q nt
        · exact absurd q nt
        · exact absurd q nf
        · exact ⟨y1, y2, y3⟩
      · have ht : jTn F x := q5.mp (Classical.not_not.mp t5).2
        have nf : ¬ m x = 50 := fun q => d ((fr1 ht).mpr q)
        have ho : op x := Classical.not_not.mp (fun q => c ⟨h48, (hop _ h48).mpr q⟩)
        refine c_relax (u := x) (v := 48) (P' := fun a b k => P a b k ∨ jPe F op m (x + 1) a b k) hS hj hE hd0 hJ (Or.inr (Or.inr (Or.inr (Or.inl ⟨rfl, ht, ho, nf, rfl⟩)))) (grow x 48 ?_) (fun q => ⟨_, rfl, rfl, fun z => absurd rfl z, fun _ => fl q⟩) (fun K q => ⟨_, rfl, rfl, fun _ => nx1 K q, fun z => absurd z (by decide)⟩)
        rintro a b k (⟨-, -, -, -, q, -⟩ | ⟨y1, y2, -, -, -, y3⟩ | ⟨-, -, q, -⟩ | ⟨-, -, q, -⟩)
        · exact absurd q nf
        · exact ⟨y1, y2, y3⟩
        · obtain ⟨y, hy⟩ := q
          exact absurd hy (j_tnh s5 ht y)
        · obtain ⟨y, hy⟩ := q
          exact absurd hy (j_tnh s5 ht y)
      · have nt : ¬ jTn F x := fun q => t5 ⟨h48, q5.mpr q⟩
        have nh : ¬ jHl F x := fun q => t6 ⟨h48, q6.mpr q⟩
        rintro a b k (⟨-, -, q, -⟩ | ⟨-, -, q, -⟩ | ⟨-, -, q, -⟩ | ⟨-, -, q, -⟩)
        · exact nt q
        · exact nt q
        · exact nh q
        · exact nh q
      · have nt : ¬ jTn F x := fun q => t5 ⟨h48, q5.mpr q⟩
        have hh : jHl F x := q6.mp (Classical.not_not.mp t6).2
        have fr : jFr m x := (fr2 hh).mp d
        refine c_relax (u := x) (v := 49) (P' := fun a b k => P a b k ∨ jPe F op m (x + 1) a b k) hS hj hE hd0 hJ (Or.inr (Or.inr (Or.inr (Or.inr (Or.inl ⟨rfl, hh, fr, rfl⟩))))) (grow x 49 ?_) (fun q => ⟨_, rfl, rfl, fun _ => fl q, fun z => absurd rfl z⟩) (fun K q => ⟨_, rfl, rfl, fun z => absurd z (by decide), fun _ => nx1 K q⟩)
        rintro a b k (⟨-, -, q, -⟩ | ⟨-, -, q, -⟩ | ⟨y1, y2, -, -, y3⟩ | ⟨-, -, -, q, -⟩)
        · exact absurd q nt
        · exact absurd q nt
        · exact ⟨y1, y2, y3⟩
        · exact absurd fr q
      · have ht : jTn F x := q5.mp (Classical.not_not.mp t5).2
        have fr : m x = 50 := (fr1 ht).mp d
        have ho : op x := Classical.not_not.mp (fun q => c ⟨h48, (hop _ h48).mpr q⟩)
        refine c_relax (u := 48) (v := x) (P' := fun a b k => P a b k ∨ jPe F op m (x + 1) a b k) hS hj hE hd0 hJ (Or.inr (Or.inr (Or.inl ⟨rfl, ht, ho, fr, rfl⟩))) (grow 48 x ?_) (fun q => ⟨_, rfl, rfl, fun _ => fl q, fun z => absurd rfl z⟩) (fun K q => ⟨_, rfl, rfl, fun z => absurd z (by decide), fun _ => nx1 K q⟩)
        rintro a b k (⟨y1, y2, -, -, -, y3⟩ | ⟨-, -, -, -, q, -⟩ | ⟨-, -, q, -⟩ | ⟨-, -, q, -⟩)
        · exact ⟨y1, y2, y3⟩
        · exact absurd fr q
        · obtain ⟨y, hy⟩ := q
          exact absurd hy (j_tnh s5 ht y)
        · obtain ⟨y, hy⟩ := q
          exact absurd hy (j_tnh s5 ht y)
      · have c := Classical.not_not.mp c
        have no := (hop _ h48).mp c.2
        rintro a b k (⟨-, -, -, q, -⟩ | ⟨-, -, -, q, -⟩ | ⟨-, -, q, -⟩ | ⟨-, -, q, -⟩)
        · exact no q
        · exact no q
        · exact no (hoh _ q)
        · exact no (hoh _ q)
  refine ZC.of' (vX4_relaxEnds_0 hS hj (key 48 0 I false (by omega) ?_)) rfl (Nat.le_of_ble_eq_true rfl) rfl
  rw [Bool.or_false]
  refine bS_mono hb ?_
  rintro a b k (q | ⟨i', i1, -⟩)
  · exact q
  · exact absurd i1 (Nat.not_lt_zero _)
/-- the joins' rows but distance and next are the same -/
def jDone (I0 I : zFI) (j z : Nat) (E : Nat → Nat → Int → Prop) : Prop :=
  (∀ b, b ≠ j + 6 → b ≠ j + 7 → I b = I0 b) ∧ bD E z (fun u => (I (j + 6) u).toInt) (fun u => (I (j + 7) u).toNatClampNeg) ∧ ∀ u, u < 50 → ¬ (I (j + 6) u).toInt = 1000000 → ¬ u = z → 0 ≤ I (j + 7) u
theorem c_measureTo {G : Gp} {Q : zPost} {S : zSh} {I : zFI} {L : zFL} {j na z : Nat} {aT aH : Nat → Nat} {w : Nat → Nat → Int} {op : Nat → Prop} {m : Nat → Nat} {π : Nat → Int} (hS : zStd S) (hj : zJn j) (hst : jSt I L j na aT aH w) (hm : jVal (jArc na aT aH) m) (hpt : jPt I j (jArc na aT aH) m) (hπ : jFe (jArc na aT aH) w op m π) (hop : ∀ x, x < 48 → (zhas (L j 7) x ↔ ¬ op x)) (hoh : ∀ x, jHl (jArc na aT aH) x → op x) (hz : z < 50)
    (h : ∀ I', jDone I I' j z (jE (jArc na aT aH) w op m) → Q none S I' L) : ZC G mX4_measureTo fX4_measureTo lX4_measureTo [zo G j, .int (nI z)] S I L 0 0 Q := by
  have hE := jE_ok hst.2.2.2.2 hπ
  have key : ∀ (k r : Nat) (J : zFI) (f : Bool), r + k = 50 → (∀ b, b ≠ j + 6 → b ≠ j + 7 → J b = I b) → bInv (jE (jArc na aT aH) w op m) z (fun u => (J (j + 6) u).toInt) (fun u => (J (j + 7) u).toNatClampNeg) → (∀ u, u < 50 → ¬ (J (j + 6) u).toInt = 1000000 → ¬ u = z → 0 ≤ J (j + 7) u) → bW (jE (jArc na aT aH) w op m) z r (fun u => (J (j + 6) u).toInt) → (f = false → bCv (jE (jArc na aT aH) w op m) (fun u => (J (j + 6) u).toInt)) → ZW G mX4_measureTo fX4_measureTo lX4_measureTo 38 [zo G j, .int (nI z), .int (bI f), .int (nI r)] [] S J L 0 0 Q := by
    intro k
    induction k with
    | zero =>
      intro r J f hr j1 j2 j3 j4 j5
      have : r = 50 := by omega
      subst this
      exact vX4_measureTo_38 hS hj ⟨fun _ => h J ⟨j1, ⟨j2, bCv_W hE j2 j4⟩, j3⟩, fun hc => absurd (Int32.le_refl _) hc⟩
    | succ k ih =>
      intro r J f hr j1 j2 j3 j4 j5
      refine vX4_measureTo_38 hS hj ⟨fun hc => absurd hc (show ¬ nI 50 ≤ nI r from nI_ge (by omega) (by omega)), fun _ => ⟨fun c => h J ⟨j1, ⟨j2, j5 ((bI_0 f).mp c)⟩, j3⟩, fun c => ?_⟩⟩
      have d0 : ∀ u, u < 50 → (fun u => (J (j + 6) u).toInt) u ≤ 1000000 := j2.2.1
      refine c_relaxArcs hS hj hst hm hpt hE hop d0 ⟨j1, bJ_start j2, j3⟩ (fun I1 f1 b1 => ⟨_, rfl, rfl, c_relaxEnds hS hj hst hm hpt hE hop hoh d0 b1 (fun I2 g b2 => ⟨_, rfl, rfl, ?_⟩)⟩)
      have b3 := bS_mono (P' := jE (jArc na aT aH) w op m) b2 (fun a b k q => jE_parts hst.2.2.2.2 q)
      have nx : ∀ b : Bool, b = (f1 || g) → ZW G mX4_measureTo fX4_measureTo lX4_measureTo 38 [zo G j, .int (nI z), .int (bI b), .int (nI r + 1)] [] S I2 L 0 0 Q := fun b hb => by
        rw [nI_1]
        refine ih (r + 1) I2 b (by omega) b3.1 b3.2.1.1 b3.2.2 (bW_s hE (by omega) b3.2.1 j4) (fun q => ?_)
        rw [← hb, q] at b3
        exact bCv_0 hE b3.2.1
      refine ⟨fun q => ?_, fun q => ⟨fun q2 => ?_, fun q2 => ?_⟩⟩
      · have : g = true := by cases g; exact absurd rfl q; rfl
        exact nx true (by rw [this, Bool.or_true])
      · exact nx false (by rw [(bI_0 g).mp q, (bI_0 f1).mp q2]; rfl)
      · have : f1 = true := by cases f1; exact absurd rfl q2; rfl
        exact nx true (by rw [this]; rfl)
  refine ZC.of' (vX4_measureTo_0 hS hj (c_fill hS (hS.hasJ hj 6 (kd := (1, 50)) rfl rfl rfl) (by decide) (fun I1 h1 h2 => ⟨rfl, rfl, c_fill hS (hS.hasJ hj 7 (kd := (1, 50)) rfl rfl rfl) (by decide) (fun I2 g1 g2 => ⟨rfl, rfl, fun no => absurd no (nI_pos (by omega)), fun _ => ⟨fun no => absurd no (nI_ge (b := 50) hz (by omega)), fun _ => ⟨znIin hz (by decide), ?_⟩⟩⟩)⟩))) rfl (Nat.le_of_ble_eq_true rfl) rfl
  rw [znIc (by omega)]
  have dz : (u2 I2 (j + 6) z 0) (j + 6) z = 0 := u2_same _ _ _ _
  have du : ∀ u, u < 50 → ¬ u = z → (u2 I2 (j + 6) z 0) (j + 6) u = 1000000 := fun u hu hn => by
    rw [u2_ne _ _ _ _ (by omega), g1 _ (by omega), h2 u hu]
  have inv : bInv (jE (jArc na aT aH) w op m) z (fun u => ((u2 I2 (j + 6) z 0) (j + 6) u).toInt) (fun u => ((u2 I2 (j + 6) z 0) (j + 7) u).toNatClampNeg) := by
    refine ⟨by show ((u2 I2 (j + 6) z 0) (j + 6) z).toInt = 0; rw [dz]; rfl, fun u hu => ?_, fun u hu hd hn => ?_, fun u hu hd => ?_⟩
    · show ((u2 I2 (j + 6) z 0) (j + 6) u).toInt ≤ 1000000
      by_cases c : u = z
      · rw [c, dz]
        decide
      · rw [du u hu c]
        decide
    · exact absurd (by show ((u2 I2 (j + 6) z 0) (j + 6) u).toInt = 1000000; rw [du u hu hn]; rfl) hd
    · by_cases c : u = z
      · exact ⟨0, c⟩
      · exact absurd (by show ((u2 I2 (j + 6) z 0) (j + 6) u).toInt = 1000000; rw [du u hu c]; rfl) hd
  refine key 50 0 _ true (by omega) (fun b hb1 hb2 => ?_) inv (fun u hu hd hn => ?_) (bW_0 inv) (fun q => Bool.noConfusion q)
  · rw [← u2_row _ _ _ _ hb1, g1 b hb2, h1 b hb1]
  · exact absurd (by rw [du u hu hn]; rfl) hd
