theorem mX_sub {I J : zFI} {nt nh : Nat} {tn hl : Nat → Nat} {F F' : Nat → Nat → Prop} {w : Nat → Nat → Int} (h : mX I nt nh tn hl F w) (o1 : ∀ i, i < nt → I 114 i = 0) (o2 : ∀ k, k < nh → I 115 k = 0) (o3 : I 84 52 = -1) (e42 : J 84 42 = I 84 42) (e43 : J 84 43 = I 84 43) (e110 : J 110 = I 110)
    (hF : ∀ i k, i < nt → k < nh → (F' (tn i) (hl k) ↔ F (tn i) (hl k) ∧ J 114 i = 0 ∧ J 115 k = 0 ∧ ¬ (J 84 52 = nI i ∧ J 84 53 = nI k))) (hs : ∀ t h, F' t h → F t h) : mX J nt nh tn hl F' w := by
  obtain ⟨x1, x2, x3, x4, x5, x6, x7, x8, x9, x10, x11, hok⟩ := h
  refine ⟨e42.trans x1, x2, e43.trans x3, x4, x5, x6, x7, x8, fun i k hi hk => ?_, fun i k hi hk => by rw [e110]; exact x10 i k hi hk, fun t h q => x11 t h (hs t h q), jOk_sub hok hs⟩
  rw [hF i k hi hk, x9 i k hi hk, e110]
  constructor
  · rintro ⟨a, b⟩
    exact ⟨a.1, b⟩
  · rintro ⟨a, b⟩
    exact ⟨⟨a, o1 i hi, o2 k hk, fun q => nI_neg1 (by omega) (q.1.symm.trans o3)⟩, b⟩
theorem sm_idx {g : Nat → Int} {nt : Nat} {tn : Nat → Nat} (h48 : ∀ i, i < nt → tn i < 48) (hi : ∀ i i', i < i' → i' < nt → tn i < tn i') (h0 : ∀ x, x < 48 → (∀ i, i < nt → ¬ x = tn i) → g x = 0) : sm (fun i => g (tn i)) nt = sm g 48 := by
  have e1 : sm (fun i => g (tn i)) nt = sm (fun i => sm (fun x => if x = tn i then g x else 0) 48) nt := sm_congr (fun i hi' => by
    rw [sm_one (k := tn i) (h48 i hi') (fun x _ hx => if_neg hx), if_pos rfl])
  rw [e1, sm_swap (fun i x => if x = tn i then g x else 0)]
  refine sm_congr (fun x hx => ?_)
  by_cases c : ∃ i, i < nt ∧ x = tn i
  · obtain ⟨i, i1, i2⟩ := c
    rw [sm_one (k := i) i1 (fun i' hi' hn => if_neg (fun q => hn (inj_of hi hi' i1 (q.symm.trans i2)))), if_pos i2]
  · rw [sm_nil (fun i hi' => if_neg (fun q => c ⟨i, hi', q⟩)), h0 x hx (fun i hi' q => c ⟨i, hi', q⟩)]
noncomputable def zfl (p : Prop) : Int32 := @ite _ p (Classical.propDecidable _) 1 0
theorem zfl_1 {p : Prop} (h : p) : zfl p = 1 := @if_pos _ (Classical.propDecidable _) h _ _ _
theorem zfl_0 {p : Prop} (h : ¬ p) : zfl p = 0 := @if_neg _ (Classical.propDecidable _) h _ _ _
noncomputable def zti (F : Nat → Nat → Prop) (w : Nat → Nat → Int) (M : Nat → Nat) (t : Nat) : Int := @ite _ (¬ M t = 50 ∧ jTie F w M t) (Classical.propDecidable _) 1 0
theorem zti_1 {F : Nat → Nat → Prop} {w : Nat → Nat → Int} {M : Nat → Nat} {t : Nat} (h : ¬ M t = 50) (h2 : jTie F w M t) : zti F w M t = 1 := @if_pos _ (Classical.propDecidable _) ⟨h, h2⟩ _ _ _
theorem zti_0 {F : Nat → Nat → Prop} {w : Nat → Nat → Int} {M : Nat → Nat} {t : Nat} (h : ¬ (¬ M t = 50 ∧ jTie F w M t)) : zti F w M t = 0 := @if_neg _ (Classical.propDecidable _) h _ _ _
/-- what findJoin leaves -/
def mOut (I : zFI) (c jn : Nat) (F : Nat → Nat → Prop) (w : Nat → Nat → Int) (M : Nat → Nat) : Prop :=
  (I 121 c).toInt = jSz M ∧ (I 122 c).toInt = jCo w M ∧ (I 123 c).toInt = sm (zti F w M) 48 ∧
  (∀ t, t < 48 → ¬ M t = 50 → I 119 (48 * c + t) = nI (M t) ∧ I 119 (48 * c + M t) = nI t ∧ I 120 (48 * c + t) = zfl (jTie F w M t) ∧ I 120 (48 * c + M t) = zfl (jTie F w M t)) ∧ ∀ x, x < jn → M x = 50 → jFr M x → I 119 (48 * c + x) = -1
def pX (B J : zFI) : Prop := (∀ b, b ∉ ([84, 111, 112, 113, 114, 115, 116, 117, 118] : List Nat) → J b = B b) ∧ ∀ k, k ≠ 50 → k ≠ 51 → J 84 k = B 84 k
theorem pX.trans {I J K : zFI} (h : pX I J) (g : pX J K) : pX I K := ⟨fun b hb => (g.1 b hb).trans (h.1 b hb), fun k h1 h2 => (g.2 k h1 h2).trans (h.2 k h1 h2)⟩
theorem mSame.px {I J : zFI} (h : mSame I J) : pX I J := by
  refine ⟨fun b hb => ?_, h.2⟩
  simp only [List.mem_cons, List.mem_nil_iff, or_false, not_or] at hb
  obtain ⟨h1, h2, h3, h4, h5, h6, h7, h8, h9⟩ := hb
  exact h.1 b h1 h2 h3 h7 h8 h9
theorem pX_row {I J : zFI} {a k : Nat} {v : Int32} (h : pX I J) (ha : a ∈ ([111, 112, 113, 114, 115, 116, 117, 118] : List Nat)) : pX I (u2 J a k v) := by
  have e1 : ∀ b, b ∈ ([111, 112, 113, 114, 115, 116, 117, 118] : List Nat) → b ∈ ([84, 111, 112, 113, 114, 115, 116, 117, 118] : List Nat) ∧ b ≠ 84 := by decide
  obtain ⟨x1, x3⟩ := e1 a ha
  refine ⟨fun b hb => ?_, fun k' h1 h2 => ?_⟩
  · rw [← u2_row _ _ _ _ (show b ≠ a from fun q => hb (by rw [q]; exact x1))]
    exact h.1 b hb
  · rw [u2_ne _ _ _ _ (fun q => x3 q.1.symm)]
    exact h.2 k' h1 h2
theorem jSz_upd {M : Nat → Nat} {t h : Nat} {w : Nat → Nat → Int} (ht : t < 48) (hM : M t = 50) (hh : ¬ h = 50) : jSz (fun x => if x = t then h else M x) = jSz M + 1 ∧ jCo w (fun x => if x = t then h else M x) = jCo w M + w t h := by
  have u1 := sm_upd (f := fun x => if M x = 50 then (0 : Int) else 1) (g := fun x => if (if x = t then h else M x) = 50 then (0 : Int) else 1) (n := 48) ht (fun x _ hx => by rw [if_neg hx])
  have u2 := sm_upd (f := fun x => if M x = 50 then (0 : Int) else w x (M x)) (g := fun x => if (if x = t then h else M x) = 50 then (0 : Int) else w x (if x = t then h else M x)) (n := 48) ht (fun x _ hx => by rw [if_neg hx])
  rw [if_pos hM, if_pos rfl, if_neg hh] at u1 u2
  have v1 : jSz (fun x => if x = t then h else M x) = jSz M - 0 + 1 := u1
  have v2 : jCo w (fun x => if x = t then h else M x) = jCo w M - 0 + w t h := u2
  omega
/-- the trial of the tenons, one by one -/
theorem m_trials {G : Gp} {Q : zPost} {S : zSh} {B : zFI} {L : zFL} {c nt nh : Nat} {tn hl : Nat → Nat} {F : Nat → Nat → Prop} {w : Nat → Nat → Int} {m0 : Nat → Nat} {most least : Int32} (hS : zStd S) (hx : mX B nt nh tn hl F w) (o1 : ∀ i, i < nt → B 114 i = 0) (o2 : ∀ k, k < nh → B 115 k = 0) (o3 : B 84 52 = -1) (hopt : jOpt F w m0) (e1 : most.toInt = jSz m0) (e2 : least.toInt = jCo w m0)
    (q : ∀ (J : zFI) (M : Nat → Nat) (a s : Int32), pX B J → jBest F w M → (∀ i, i < nt → (J 113 i = -1 ∧ M (tn i) = 50) ∨ ∃ k, k < nh ∧ J 113 i = nI k ∧ M (tn i) = hl k) → (∀ x, x < 48 → (∀ i, i < nt → ¬ x = tn i) → M x = 50) → ZW G mX12_findJoin fX12_findJoin lX12_findJoin 197 [zo G 84, .int (nI c), .int most, .int least, .int a, .int s, .int 0, .null, .null, .null] [] S J L 0 0 Q) :
    ZW G mX12_findJoin fX12_findJoin lX12_findJoin 30 [zo G 84, .int (nI c), .int most, .int least, .int 0, .int 0, .int 0, .null, .null, .null] [] S B L 0 0 Q := by
  have hx' := hx
  obtain ⟨x1, x2, x3, x4, x5, x6, x7, x8, x9, x10, x11, hok⟩ := hx
  have val50 : ∀ m, jVal F m → ∀ x, x < 48 → (∀ i, i < nt → ¬ x = tn i) → m x = 50 := fun m hm x hx hno => Classical.byContradiction (fun y => by
    obtain ⟨i, k, i1, i2, i3, i4⟩ := x11 _ _ ((hm.1 x hx).resolve_left y)
    exact hno i i1 i3.symm)
  have valh : ∀ m, jVal F m → ∀ i, i < nt → m (tn i) = 50 ∨ ∃ k, k < nh ∧ m (tn i) = hl k ∧ F (tn i) (hl k) := fun m hm i hi => by
    rcases hm.1 _ (x5 i hi) with y | y
    · exact Or.inl y
    · obtain ⟨i', k, i1, i2, i3, i4⟩ := x11 _ _ y
      exact Or.inr ⟨k, i2, i4.symm, by rw [i4]; exact y⟩
  have base9 : ∀ i k, i < nt → k < nh → (F (tn i) (hl k) ↔ ¬ B 110 (48 * i + k) = -1) := fun i k hi hk => by
    rw [x9 i k hi hk]
    exact ⟨fun y => y.1, fun y => ⟨y, o1 i hi, o2 k hk, fun z => nI_neg1 (by omega) (z.1.symm.trans o3)⟩⟩
  have bm := jSz_b (m := m0)
  have bc := jCo_b hok hopt.1
  have outer : ∀ (d i : Nat) (J : zFI) (M : Nat → Nat) (a s : Int32), i + d = nt → pX B J → (∀ i', i' < nt → J 114 i' = if i' < i then 1 else 0) → (∀ k, k < nh → (J 115 k = 0 ↔ ∀ x, x < 48 → ¬ M x = hl k)) → (∀ i', i' < i → (J 113 i' = -1 ∧ M (tn i') = 50) ∨ ∃ k, k < nh ∧ J 113 i' = nI k ∧ M (tn i') = hl k) → (∀ x, x < 48 → (∀ i', i' < i → ¬ x = tn i') → M x = 50) → jVal F M → a.toInt = jSz M → s.toInt = jCo w M → (∃ m1, jOpt F w m1 ∧ ∀ i', i' < i → m1 (tn i') = M (tn i')) →
      (∀ m', jOpt F w m' → (∀ i', i' < i → M (tn i') = m' (tn i')) ∨ ∃ i', i' < i ∧ (∀ i'', i'' < i' → M (tn i'') = m' (tn i'')) ∧ M (tn i') < m' (tn i')) → ZW G mX12_findJoin fX12_findJoin lX12_findJoin 30 [zo G 84, .int (nI c), .int most, .int least, .int a, .int s, .int (nI i), .null, .null, .null] [] S J L 0 0 Q := by
    intro d
    induction d with
    | zero =>
      intro i J M a s hi p l14 l15 l13 l50 hV ea es hex lex
      have : nt = i := by omega
      subst this
      refine vX12_findJoin_30 hS ⟨fun _ => q J M a s p ⟨?_, fun m' hm' => ?_⟩ l13 l50, fun hc => ?_⟩
      · obtain ⟨m1, y1, y2⟩ := hex
        have same : ∀ x, x < 48 → m1 x = M x := fun x hx => by
          by_cases z : ∃ i, i < nt ∧ x = tn i
          · obtain ⟨i, z1, z2⟩ := z
            rw [z2]
            exact y2 i z1
          · rw [l50 x hx (fun i hi z3 => z ⟨i, hi, z3⟩), val50 m1 y1.1 x hx (fun i hi z3 => z ⟨i, hi, z3⟩)]
        have s1 : jSz M = jSz m1 := sm_congr (fun x hx => by rw [same x hx])
        have s2 : jCo w M = jCo w m1 := sm_congr (fun x hx => by rw [same x hx])
        exact ⟨hV, fun m' hm' => by rw [s1, s2]; exact y1.2 m' hm'⟩
      · rcases lex m' hm' with y | ⟨i, y1, y2, y3⟩
        · refine Or.inl (fun x hx => ?_)
          by_cases z : ∃ i, i < nt ∧ x = tn i
          · obtain ⟨i, z1, z2⟩ := z
            rw [z2]
            exact y i z1
          · rw [l50 x hx (fun i hi z3 => z ⟨i, hi, z3⟩), val50 m' hm'.1 x hx (fun i hi z3 => z ⟨i, hi, z3⟩)]
        · refine Or.inr ⟨tn i, x5 i y1, fun x hx => ?_, y3⟩
          have h48 := x5 i y1
          by_cases z : ∃ i, i < nt ∧ x = tn i
          · obtain ⟨i2, z1, z2⟩ := z
            rw [z2]
            refine y2 i2 ?_
            rcases Nat.lt_trichotomy i2 i with u | u | u
            · exact u
            · rw [z2, u] at hx
              omega
            · have := x7 i i2 u z1
              omega
          · rw [l50 x (by omega) (fun i hi z3 => z ⟨i, hi, z3⟩), val50 m' hm'.1 x (by omega) (fun i hi z3 => z ⟨i, hi, z3⟩)]
      · rw [p.2 42 (by decide) (by decide), x1] at hc
        exact absurd (Int32.le_refl _) hc
    | succ d ih =>
      intro i J M a s hi p l14 l15 l13 l50 hV ea es hex lex
      have hin : i < nt := by omega
      have ic : (nI i).toNatClampNeg = i := znIc (by omega)
      have t48 := x5 i hin
      have Mi : M (tn i) = 50 := l50 _ t48 (fun i' hi' y => by have := inj_of x7 hin (by omega) y; omega)
      have inner : ∀ (d' k : Nat) (K : zFI), k + d' = nh → pX B K → (∀ i', i' < nt → K 114 i' = if i' < i + 1 then 1 else 0) → (∀ k, k < nh → (K 115 k = 0 ↔ ∀ x, x < 48 → ¬ M x = hl k)) → (∀ i', i' < i → (K 113 i' = -1 ∧ M (tn i') = 50) ∨ ∃ k, k < nh ∧ K 113 i' = nI k ∧ M (tn i') = hl k) → K 113 i = -1 →
          (∀ k', k' < k → ∀ m', jOpt F w m' → (∀ i', i' < i → m' (tn i') = M (tn i')) → ¬ m' (tn i) = hl k') → ZW G mX12_findJoin fX12_findJoin lX12_findJoin 58 [zo G 84, .int (nI c), .int most, .int least, .int a, .int s, .int (nI i), .int (nI k), .null, .null] [] S K L 0 0 Q := by
        intro d'
        induction d' with
        | zero =>
          intro k K hk pK g14 g15 g13 gi no
          have : nh = k := by omega
          subst this
          have fifty : ∀ m', jOpt F w m' → (∀ i', i' < i → m' (tn i') = M (tn i')) → m' (tn i) = 50 := fun m' hm' ag => by
            rcases valh m' hm'.1 i hin with y | ⟨k', y1, y2, -⟩
            · exact y
            · exact absurd y2 (no k' y1 m' hm' ag)
          refine vX12_findJoin_58 hS ⟨fun _ => ?_, fun hc => ?_⟩
          · rw [nI_1]
            refine ih (i + 1) K M a s (by omega) pK g14 g15 (fun i' hi' => ?_) (fun x hx hno => l50 x hx (fun i' hi' => hno i' (by omega))) hV ea es ?_ (fun m' hm' => ?_)
            · rcases (by omega : i' < i ∨ i' = i) with y | y
              · exact g13 i' y
              · rw [y]
                exact Or.inl ⟨gi, Mi⟩
            · obtain ⟨m1, y1, y2⟩ := hex
              refine ⟨m1, y1, fun i' hi' => ?_⟩
              rcases (by omega : i' < i ∨ i' = i) with y | y
              · exact y2 i' y
              · rw [y, Mi, fifty m1 y1 y2]
            · rcases lex m' hm' with y | ⟨i', y1, y2, y3⟩
              · refine Or.inl (fun i' hi' => ?_)
                rcases (by omega : i' < i ∨ i' = i) with z | z
                · exact y i' z
                · rw [z, Mi, fifty m' hm' (fun i'' hi'' => (y i'' hi'').symm)]
              · exact Or.inr ⟨i', by omega, y2, y3⟩
          · rw [pK.2 43 (by decide) (by decide), x3] at hc
            exact absurd (Int32.le_refl _) hc
        | succ d' ih' =>
          intro k K hk pK g14 g15 g13 gi no
          have hkn : k < nh := by omega
          have kc : (nI k).toNatClampNeg = k := znIc (by omega)
          have h48 := x6 k hkn
          have e110 : K 110 = B 110 := pK.1 110 (by decide)
          have skip : (∀ m', jOpt F w m' → (∀ i', i' < i → m' (tn i') = M (tn i')) → ¬ m' (tn i) = hl k) → ∀ K', pX B K' → (∀ i', i' < nt → K' 114 i' = if i' < i + 1 then 1 else 0) → (∀ k, k < nh → (K' 115 k = 0 ↔ ∀ x, x < 48 → ¬ M x = hl k)) → (∀ i', i' < i → (K' 113 i' = -1 ∧ M (tn i') = 50) ∨ ∃ k, k < nh ∧ K' 113 i' = nI k ∧ M (tn i') = hl k) → K' 113 i = -1 → ZW G mX12_findJoin fX12_findJoin lX12_findJoin 58 [zo G 84, .int (nI c), .int most, .int least, .int a, .int s, .int (nI i), .int (nI k + 1), .null, .null] [] S K' L 0 0 Q := fun hno K' a1 a2 a3 a4 a5 => by
            rw [nI_1]
            refine ih' (k + 1) K' (by omega) a1 a2 a3 a4 a5 (fun k' hk' => ?_)
            rcases (by omega : k' < k ∨ k' = k) with y | y
            · exact no k' y
            · rw [y]
              exact hno
          refine vX12_findJoin_58 hS ⟨fun hc => ?_, fun _ => ?_⟩
          · rw [pK.2 43 (by decide) (by decide), x3] at hc
            exact absurd hc (nI_ge (by omega) (by omega))
          · rw [ic, kc, zx48, znIc (show 48 * i + k < 2147483648 by omega), e110]
            refine ⟨znIin (by omega) (by decide), fun z => absurd gi z, fun _ => ⟨znIin (by omega) (by decide), fun z => skip (fun m' hm' _ y => ?_) K pK g14 g15 g13 gi, fun z => ⟨znIin (by omega) (by decide), fun z2 => ?_, fun z2 => skip (fun m' hm' ag y => ?_) K pK g14 g15 g13 gi⟩⟩⟩
            · have f := (hm'.1.1 _ t48).resolve_left (by omega)
              rw [y] at f
              exact (base9 i k hin hkn).mp f z
            · have fik := (base9 i k hin hkn).mpr z
              have free := (g15 k hkn).mp z2
              obtain ⟨w1, w2, w3⟩ := x10 i k hin hkn z
              obtain ⟨M', hM'⟩ : ∃ M' : Nat → Nat, M' = fun x => if x = tn i then hl k else M x := ⟨_, rfl⟩
              have M't : M' (tn i) = hl k := by rw [hM']; exact if_pos rfl
              have M'o : ∀ x, ¬ x = tn i → M' x = M x := fun x y => by rw [hM']; exact if_neg y
              have uz := jSz_upd (w := w) t48 Mi (show ¬ hl k = 50 by omega)
              rw [← hM'] at uz
              have hV' : jVal F M' := by
                constructor
                · intro t ht
                  by_cases y : t = tn i
                  · rw [y, M't]
                    exact Or.inr fik
                  · rw [M'o t y]
                    exact hV.1 t ht
                · intro t t' ht ht' hn he
                  by_cases y : t = tn i
                  · by_cases y' : t' = tn i
                    · rw [y, y']
                    · rw [y, M't, M'o t' y'] at he
                      exact absurd he.symm (free t' ht')
                  · by_cases y' : t' = tn i
                    · rw [y', M't, M'o t y] at he
                      exact absurd he (free t ht)
                    · rw [M'o t y] at hn he
                      rw [M'o t' y'] at he
                      exact hV.2 t t' ht ht' hn he
              have early : ∀ x, x < 48 → ¬ M' x = 50 → ∃ i', i' < i + 1 ∧ x = tn i' := fun x hx y => Classical.byContradiction (fun no2 => y (by
                rw [M'o x (fun u => no2 ⟨i, by omega, u⟩)]
                exact l50 x hx (fun i' hi' u => no2 ⟨i', by omega, u⟩)))
              have b1 := jSz_b (m := M)
              have b2 := jCo_b hok hV
              have b1' := jSz_b (m := M')
              have b2' := jCo_b hok hV'
              have ea' : (a + 1).toInt = jSz M' := by rw [zinc (by omega)]; omega
              have es' : (s + B 110 (48 * i + k)).toInt = jCo w M' := by rw [zadd (by omega) (by omega)]; omega
              have mx : mX (u2 K 115 k 1) nt nh tn hl (fun t h => F t h ∧ ¬ (∃ i', i' < i + 1 ∧ t = tn i') ∧ ∀ x, x < 48 → ¬ M' x = h) w := by
                refine mX_sub hx' o1 o2 o3 (by rw [u2_ne _ _ _ _ (by omega)]; exact pK.2 42 (by decide) (by decide)) (by rw [u2_ne _ _ _ _ (by omega)]; exact pK.2 43 (by decide) (by decide)) (by rw [← u2_row _ _ _ _ (by decide)]; exact e110) (fun i' k' hi' hk' => ?_) (fun t h y => y.1)
                have n52 : ¬ ((u2 K 115 k 1) 84 52 = nI i' ∧ (u2 K 115 k 1) 84 53 = nI k') := fun y => by
                  have y1 := y.1
                  rw [u2_ne _ _ _ _ (by omega), pK.2 52 (by decide) (by decide), o3] at y1
                  exact nI_neg1 (by omega) y1.symm
                have c14 : (u2 K 115 k 1) 114 i' = 0 ↔ ¬ ∃ i'', i'' < i + 1 ∧ tn i' = tn i'' := by
                  rw [u2_ne _ _ _ _ (by omega), g14 i' hi']
                  by_cases y : i' < i + 1
                  · rw [if_pos y]
                    exact ⟨fun u => absurd u (by decide), fun u => absurd ⟨i', y, rfl⟩ u⟩
                  · rw [if_neg y]
                    refine ⟨fun _ => ?_, fun _ => rfl⟩
                    rintro ⟨i'', u1, u2⟩
                    have := inj_of x7 hi' (by omega) u2
                    omega
                have c15 : (u2 K 115 k 1) 115 k' = 0 ↔ ∀ x, x < 48 → ¬ M' x = hl k' := by
                  by_cases y : k' = k
                  · rw [y, u2_same]
                    exact ⟨fun u => absurd u (by decide), fun u => absurd M't (u _ t48)⟩
                  · rw [u2_ne _ _ _ _ (fun u => y u.2), g15 k' hk']
                    constructor
                    · intro u x hx v
                      by_cases y2 : x = tn i
                      · rw [y2, M't] at v
                        exact y (inj_of x8 hk' hkn v.symm)
                      · rw [M'o x y2] at v
                        exact u x hx v
                    · intro u x hx v
                      by_cases y2 : x = tn i
                      · rw [y2, Mi] at v
                        have := x6 k' hk'
                        omega
                      · exact u x hx (by rw [M'o x y2]; exact v)
                rw [c14, c15]
                exact ⟨fun y => ⟨y.1, y.2.1, y.2.2, n52⟩, fun y => ⟨y.1, y.2.1, y.2.2.1⟩⟩
              refine m_solves hS mx (by omega) (by omega) (fun K1 m2 sm1 om f1 f2 => ⟨rfl, rfl, ?_⟩)
              have test := f_test (e := fun x => ∃ i', i' < i + 1 ∧ x = tn i') hok hV' early (fun t h => Iff.rfl) hopt om
              have p1 : pX B K1 := (pX_row pK (by decide)).trans sm1.px
              have r14 : K1 114 = K 114 := by rw [sm1.1 114 (by decide) (by decide) (by decide) (by decide) (by decide) (by decide), ← u2_row _ _ _ _ (by decide)]
              have r113 : K1 113 = K 113 := by rw [sm1.1 113 (by decide) (by decide) (by decide) (by decide) (by decide) (by decide), ← u2_row _ _ _ _ (by decide)]
              have r115 : K1 115 = (u2 K 115 k 1) 115 := sm1.1 115 (by decide) (by decide) (by decide) (by decide) (by decide) (by decide)
              have back : ¬ (jSz M' + jSz m2 = jSz m0 ∧ jCo w M' + jCo w m2 = jCo w m0) → ZW G mX12_findJoin fX12_findJoin lX12_findJoin 58 [zo G 84, .int (nI c), .int most, .int least, .int a, .int s, .int (nI i), .int (nI k + 1), .null, .null] [] S (u2 K1 115 k 0) L 0 0 Q := fun hno => by
                refine skip (fun m' hm' ag y => hno (test.mpr ⟨m', hm', fun x hx => ?_⟩)) _ (pX_row p1 (by decide)) (fun i' hi' => by rw [u2_ne _ _ _ _ (by omega), r14]; exact g14 i' hi') (fun k' hk' => ?_) (fun i' hi' => by rw [u2_ne _ _ _ _ (by omega), r113]; exact g13 i' hi') (by rw [u2_ne _ _ _ _ (by omega), r113]; exact gi)
                · rintro ⟨i', u1, u2⟩
                  rw [u2]
                  rcases (by omega : i' < i ∨ i' = i) with v | v
                  · rw [ag i' v, M'o _ (fun z3 => by have := inj_of x7 (by omega) hin z3; omega)]
                  · rw [v, y, M't]
                · by_cases y : k' = k
                  · rw [y, u2_same]
                    exact ⟨fun _ => free, fun _ => rfl⟩
                  · rw [u2_ne _ _ _ _ (fun u => y u.2), r115, u2_ne _ _ _ _ (fun u => y u.2)]
                    exact g15 k' hk'
              refine ⟨fun u => back (fun v => u ?_), fun u => ⟨fun u2' => back (fun v => u2' ?_), fun u2' => ?_⟩⟩
              · rw [zeq, f1, e1, ea']
                omega
              · rw [zeq, f2, e2, es']
                omega
              · have v1 : jSz M' + jSz m2 = jSz m0 := by
                  have := congrArg Int32.toInt u
                  rw [f1, e1, ea'] at this
                  omega
                have v2 : jCo w M' + jCo w m2 = jCo w m0 := by
                  have := congrArg Int32.toInt u2'
                  rw [f2, e2, es'] at this
                  omega
                obtain ⟨m1, o1', o2'⟩ := test.mp ⟨v1, v2⟩
                have next : ZW G mX12_findJoin fX12_findJoin lX12_findJoin 30 [zo G 84, .int (nI c), .int most, .int least, .int (a + 1), .int (s + B 110 (48 * i + k)), .int (nI i + 1), .null, .null, .null] [] S (u2 K1 113 i (nI k)) L 0 0 Q := by
                  rw [nI_1]
                  refine ih (i + 1) _ M' (a + 1) _ (by omega) (pX_row p1 (by decide)) (fun i' hi' => by rw [u2_ne _ _ _ _ (by omega), r14]; exact g14 i' hi') (fun k' hk' => ?_) (fun i' hi' => ?_) (fun x hx hno => Classical.byContradiction (fun y => by
                    obtain ⟨i', y1, y2⟩ := early x hx y
                    exact hno i' y1 y2)) hV' ea' es' ⟨m1, o1', fun i' hi' => o2' _ (x5 i' (by omega)) ⟨i', hi', rfl⟩⟩ (fun m' hm' => ?_)
                  · rw [u2_ne _ _ _ _ (by omega), r115]
                    by_cases y : k' = k
                    · rw [y, u2_same]
                      exact ⟨fun u => absurd u (by decide), fun u => absurd M't (u _ t48)⟩
                    · rw [u2_ne _ _ _ _ (fun u => y u.2), g15 k' hk']
                      constructor
                      · intro u x hx v
                        by_cases y2 : x = tn i
                        · rw [y2, M't] at v
                          exact y (inj_of x8 hk' hkn v.symm)
                        · rw [M'o x y2] at v
                          exact u x hx v
                      · intro u x hx v
                        by_cases y2 : x = tn i
                        · rw [y2, Mi] at v
                          have := x6 k' hk'
                          omega
                        · exact u x hx (by rw [M'o x y2]; exact v)
                  · rcases (by omega : i' < i ∨ i' = i) with y | y
                    · rw [u2_ne _ _ _ _ (by omega), r113, M'o _ (fun z3 => by have := inj_of x7 (by omega) hin z3; omega)]
                      exact g13 i' y
                    · rw [y, u2_same, M't]
                      exact Or.inr ⟨k, hkn, rfl, rfl⟩
                  · have ne : ∀ i', i' < i → M' (tn i') = M (tn i') := fun i' hi' => M'o _ (fun z3 => by have := inj_of x7 (by omega) hin z3; omega)
                    rcases lex m' hm' with y | ⟨i', y1, y2, y3⟩
                    · have ag : ∀ i', i' < i → m' (tn i') = M (tn i') := fun i' hi' => (y i' hi').symm
                      have le : hl k ≤ m' (tn i) := by
                        rcases valh m' hm'.1 i hin with z3 | ⟨k', z3, z4, -⟩
                        · omega
                        · rcases Nat.lt_trichotomy k' k with z5 | z5 | z5
                          · exact absurd z4 (no k' z5 m' hm' ag)
                          · rw [z4, z5]
                            exact Nat.le_refl _
                          · have := x8 k k' z5 z3
                            omega
                      rcases (by omega : hl k < m' (tn i) ∨ hl k = m' (tn i)) with z3 | z3
                      · refine Or.inr ⟨i, by omega, fun i'' hi'' => (ne i'' hi'').trans (y i'' hi''), by rw [M't]; exact z3⟩
                      · refine Or.inl (fun i' hi' => ?_)
                        rcases (by omega : i' < i ∨ i' = i) with z4 | z4
                        · exact (ne i' z4).trans (y i' z4)
                        · rw [z4, M't]
                          exact z3
                    · exact Or.inr ⟨i', by omega, fun i'' hi'' => (ne i'' (by omega)).trans (y2 i'' hi''), by rw [ne i' y1]; exact y3⟩
                rw [nI_1]
                refine vX12_findJoin_58 hS ⟨fun _ => next, fun _ => ?_⟩
                rw [ic, u2_same]
                exact ⟨znIin (by omega) (by decide), fun _ => next, fun y => absurd y (nI_neg1 (by omega))⟩
            · have h1 : ¬ ∀ x, x < 48 → ¬ M x = hl k := fun u => z2 ((g15 k hkn).mpr u)
              obtain ⟨x, hx⟩ := Classical.not_forall.mp h1
              obtain ⟨hx1, hx2⟩ := Classical.not_imp.mp hx
              have hx2 := Classical.not_not.mp hx2
              have : ∃ i', i' < i ∧ x = tn i' := Classical.byContradiction (fun u => by
                have := l50 x hx1 (fun i' hi' v => u ⟨i', hi', v⟩)
                omega)
              obtain ⟨i', u1, u2⟩ := this
              have mx2 : m' x = hl k := by rw [u2, ag i' u1, ← u2]; exact hx2
              have := hm'.1.2 x (tn i) hx1 t48 (by omega) (mx2.trans y.symm)
              rw [u2] at this
              have := inj_of x7 (by omega) hin this
              omega
      refine vX12_findJoin_30 hS ⟨fun hc => ?_, fun _ => ?_⟩
      · rw [p.2 42 (by decide) (by decide), x1] at hc
        exact absurd hc (nI_ge (by omega) (by omega))
      · rw [ic]
        refine ⟨znIin (by omega) (by decide), inner nh 0 _ (by omega) (pX_row (pX_row p (by decide)) (by decide)) (fun i' hi' => ?_) (fun k hk => by rw [u2_ne _ _ _ _ (by omega), u2_ne _ _ _ _ (by omega)]; exact l15 k hk) (fun i' hi' => ?_) (u2_same _ _ _ _) (fun k' hk' => absurd hk' (Nat.not_lt_zero _))⟩
        · rw [u2_ne _ _ _ _ (by omega)]
          by_cases y : i' = i
          · rw [y, u2_same, if_pos (by omega)]
          · rw [u2_ne _ _ _ _ (fun u => y u.2), l14 i' hi']
            by_cases y2 : i' < i
            · rw [if_pos y2, if_pos (by omega)]
            · rw [if_neg y2, if_neg (by omega)]
        · rw [u2_ne _ _ _ _ (by omega), u2_ne _ _ _ _ (by omega)]
          exact l13 i' hi'
  have z0 : jSz (fun _ => 50) = 0 := sm_nil (fun _ _ => if_pos rfl)
  have c0 : jCo w (fun _ => 50) = 0 := sm_nil (fun _ _ => if_pos rfl)
  exact outer nt 0 B (fun _ => 50) 0 0 (by omega) ⟨fun _ _ => rfl, fun _ _ _ => rfl⟩ (fun i' hi' => by rw [if_neg (by omega)]; exact o1 i' hi') (fun k hk => ⟨fun _ x _ y => by
    have := x6 k hk
    have y : 50 = hl k := y
    omega, fun _ => o2 k hk⟩) (fun i' hi' => absurd hi' (Nat.not_lt_zero _)) (fun _ _ _ => rfl) ⟨fun _ _ => Or.inl rfl, fun _ _ _ _ y => absurd rfl y⟩ (by rw [z0]; rfl) (by rw [c0]; rfl) ⟨m0, hopt, fun i' hi' => absurd hi' (Nat.not_lt_zero _)⟩ (fun m' hm' => Or.inl (fun i' hi' => absurd hi' (Nat.not_lt_zero _)))
