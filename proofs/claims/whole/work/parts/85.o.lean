theorem mX_rows {I I' : zFI} {nt nh : Nat} {tn hl : Nat → Nat} {F : Nat → Nat → Prop} {w : Nat → Nat → Int} (h : mX I nt nh tn hl F w) (e42 : I' 84 42 = I 84 42) (e43 : I' 84 43 = I 84 43) (e52 : I' 84 52 = I 84 52) (e53 : I' 84 53 = I 84 53) (e110 : I' 110 = I 110) (e114 : I' 114 = I 114) (e115 : I' 115 = I 115) : mX I' nt nh tn hl F w := by
  unfold mX at *
  rw [e42, e43, e52, e53, e110, e114, e115]
  exact h
/-- what solves may change -/
def mSame (I I' : zFI) : Prop := (∀ b, b ≠ 84 → b ≠ 111 → b ≠ 112 → b ≠ 116 → b ≠ 117 → b ≠ 118 → I' b = I b) ∧ ∀ k, k ≠ 50 → k ≠ 51 → I' 84 k = I 84 k
theorem mSame.refl (I : zFI) : mSame I I := ⟨fun _ _ _ _ _ _ _ => rfl, fun _ _ _ => rfl⟩
theorem mSame.trans {I J K : zFI} (h : mSame I J) (g : mSame J K) : mSame I K := ⟨fun b h1 h2 h3 h4 h5 h6 => (g.1 b h1 h2 h3 h4 h5 h6).trans (h.1 b h1 h2 h3 h4 h5 h6), fun k h1 h2 => (g.2 k h1 h2).trans (h.2 k h1 h2)⟩
theorem mSame.mx {I I' : zFI} {nt nh : Nat} {tn hl : Nat → Nat} {F : Nat → Nat → Prop} {w : Nat → Nat → Int} (g : mSame I I') (h : mX I nt nh tn hl F w) : mX I' nt nh tn hl F w :=
  mX_rows h (g.2 _ (by decide) (by decide)) (g.2 _ (by decide) (by decide)) (g.2 _ (by decide) (by decide)) (g.2 _ (by decide) (by decide)) (g.1 _ (by decide) (by decide) (by decide) (by decide) (by decide) (by decide)) (g.1 _ (by decide) (by decide) (by decide) (by decide) (by decide) (by decide)) (g.1 _ (by decide) (by decide) (by decide) (by decide) (by decide) (by decide))
theorem m_grows {G : Gp} {Q : zPost} {S : zSh} {I : zFI} {L : zFL} {nt nh : Nat} {tn hl m : Nat → Nat} {F : Nat → Nat → Prop} {w : Nat → Nat → Int} {π : Nat → Int} (hS : zStd S) (hx : mX I nt nh tn hl F w) (hm : jVal F m) (hr : mR I nt nh tn hl m) (hπ : jFe F w jAll m π) (s0 : -1000 ≤ (I 84 50).toInt ∧ (I 84 50).toInt ≤ 1000) (s1 : -1000 ≤ (I 84 51).toInt ∧ (I 84 51).toInt ≤ 1000)
    (h0 : jOpt F w m → ∀ I', mSame I I' → I' 84 = I 84 → Q (some (.int 0)) S I' L) (h1 : ∀ I' m' π', mSame I I' → jVal F m' → mR I' nt nh tn hl m' → jFe F w jAll m' π' → jSz m' = jSz m + 1 → (I' 84 50).toInt = (I 84 50).toInt + 1 → (I' 84 51).toInt - jCo w m' = (I 84 51).toInt - jCo w m → Q (some (.int 1)) S I' L) : ZC G mX12_grows fX12_grows lX12_grows [zo G 84] S I L 0 0 Q := by
  have hx' := hx
  obtain ⟨x1, x2, x3, x4, x5, x6, x7, x8, x9, x10, x11, hok⟩ := hx
  refine ZC.of' (vX12_grows_0 hS (m_findFars hS hx' hm hr hπ (fun I1 d nx hf j1 hD hh hB => ⟨rfl, rfl, ?_⟩))) rfl (Nat.le_of_ble_eq_true rfl) rfl
  obtain ⟨r1, r2, r3⟩ := hr
  obtain ⟨b1, b2, b3, b4, b5⟩ := hB
  have hE := cE_ok hok hm hπ
  have e84 : I1 84 = I 84 := j1 84 (by decide) (by decide) (by decide)
  have e111 : I1 111 = I 111 := j1 111 (by decide) (by decide) (by decide)
  have e112 : I1 112 = I 112 := j1 112 (by decide) (by decide) (by decide)
  have e115 : I1 115 = I 115 := j1 115 (by decide) (by decide) (by decide)
  have same1 : mSame I I1 := ⟨fun b _ _ _ h4 h5 h6 => j1 b h4 h5 h6, fun k _ _ => by rw [e84]⟩
  have free : ∀ k, k < nh → (I 112 k = -1 ↔ jFr m (hl k)) := fun k hk => by
    rcases r3 k hk with ⟨a1, a2⟩ | ⟨i, a1, a2, a3⟩
    · exact ⟨fun _ => a2, fun _ => a1⟩
    · rw [a2]
      exact ⟨fun q => absurd q (nI_neg1 (by omega)), fun q => absurd a3 (q _ (x5 i a1))⟩
  have key : ∀ (kk k : Nat) (b : Int32), k + kk = nh → ((b = -1 ∧ ∀ k', k' < k → I 115 k' = 0 → I 112 k' = -1 → 1000000 ≤ I1 117 k') ∨ ∃ kb, kb < k ∧ b = nI kb ∧ I 112 kb = -1 ∧ ¬ 1000000 ≤ I1 117 kb ∧ ∀ k', k' < k → I 115 k' = 0 → I 112 k' = -1 → I1 117 kb ≤ I1 117 k') → ZW G mX12_grows fX12_grows lX12_grows 8 [zo G 84, .int b, .int (nI k), .null, .null] [] S I1 L 0 0 Q := by
    intro kk
    induction kk with
    | zero =>
      intro k b hk hb
      have : nh = k := by omega
      subst this
      refine vX12_grows_8 hS ⟨fun _ => ⟨fun c => ?_, fun c => ?_⟩, fun hc => ?_⟩
      · obtain ⟨kb, c1, c2, c3, c4, c5⟩ := hb.resolve_left (fun q => c q.1)
        subst c2
        have dkb := b2 kb c1
        have h48 := x6 kb c1
        have fin : ¬ d (hl kb) = 1000000 := fun q => c4 (by rw [zle, ← dkb, q]; decide)
        have hjl : jHl F (hl kb) := ⟨_, (hh _ h48 fin).1⟩
        have hfr := (free kb c1).mp c3
        have up := bD_up hE hD (u := hl kb) (by omega) fin
        have lo := b_low hE hD.1 (u := hl kb) (by omega)
        obtain ⟨n, m', π', p1, p2, p3, p4, p5, p6, p7, v1, v2, v3, v4, v5, v6⟩ := m_aug hok hm hπ hD hh hjl hfr fin (fun h q1 q2 => by
          obtain ⟨t, ht⟩ := q1
          obtain ⟨i, k', i1, i2, i3, i4⟩ := x11 _ _ ht
          rw [← i3, ← i4] at ht
          have f9 := (x9 i k' i1 i2).mp ht
          rw [← i4] at q2
          have := c5 k' i2 f9.2.2.1 ((free k' i2).mpr q2)
          rw [← i4, b2 k' i2, dkb]
          exact Or.inr (zle.mp this))
        -- the indices along the way
        have exk : ∀ i, ∃ q : Nat × Nat, i ≤ n → q.1 < nh ∧ hl q.1 = it nx i (hl kb) ∧ q.2 < nt ∧ tn q.2 = hf (it nx i (hl kb)) ∧ I1 118 q.1 = nI q.2 := fun i => by
          by_cases hi : i ≤ n
          · obtain ⟨i0, k0, q1, q2, q3, q4⟩ := x11 _ _ (p7 i hi)
            obtain ⟨i1, y1, y2, y3⟩ := b4 k0 q2 (by rw [q4]; exact (p2 i hi).2)
            refine ⟨(k0, i1), fun _ => ⟨q2, q4, y1, ?_, y2⟩⟩
            rw [← y3, q4]
          · exact ⟨(0, 0), fun q => absurd q hi⟩
        obtain ⟨g, hg⟩ := Classical.axiomOfChoice exk
        have gk : ∀ i, i ≤ n → (g i).1 < nh ∧ hl (g i).1 = it nx i (hl kb) ∧ (g i).2 < nt ∧ tn (g i).2 = hf (it nx i (hl kb)) ∧ I1 118 (g i).1 = nI (g i).2 := hg
        have k0 : (g 0).1 = kb := inj_of x8 (gk 0 (by omega)).1 c1 (gk 0 (by omega)).2.1
        have kd : ∀ a b, a ≤ n → b ≤ n → (g a).1 = (g b).1 → a = b := fun a b ha hb e => p5 a b ha hb ((gk a ha).2.1.symm.trans ((congrArg hl e).trans (gk b hb).2.1))
        have id1 : ∀ a b, a ≤ n → b ≤ n → (g a).2 = (g b).2 → a = b := fun a b ha hb e => p6 a b ha hb ((gk a ha).2.2.2.1.symm.trans ((congrArg tn e).trans (gk b hb).2.2.2.1))
        refine ⟨znIin (by omega) (by decide), ?_⟩
        rw [znIc (show kb < 2147483648 by omega)]
        generalize hK : u2 (u2 I1 84 51 (I1 84 51 + I1 117 kb)) 84 50 (I1 84 50 + 1) = K
        have kr : ∀ b, b ≠ 84 → K b = I1 b := fun b hb => by rw [← hK, ← u2_row _ _ _ _ hb, ← u2_row _ _ _ _ hb]
        have k84 : ∀ k, k ≠ 50 → k ≠ 51 → K 84 k = I1 84 k := fun k q1 q2 => by rw [← hK, u2_ne _ _ _ _ (fun z => q1 z.2), u2_ne _ _ _ _ (fun z => q2 z.2)]
        have k50 : (K 84 50).toInt = (I 84 50).toInt + 1 := by rw [← hK, u2_same, e84, zinc (by omega)]
        have k51 : (K 84 51).toInt = (I 84 51).toInt + d (hl kb) := by
          rw [← hK, u2_ne _ _ _ _ (by omega), u2_same, e84, zadd (by omega) (by omega), ← dkb]
        have loop : ∀ (ii i : Nat) (J : zFI), i + ii = n + 1 → (∀ b, b ≠ 111 → b ≠ 112 → J b = K b) → (∀ i', i' < i → J 111 (g i').2 = nI (g i').1 ∧ J 112 (g i').1 = nI (g i').2) → (∀ x, (∀ i', i' < i → ¬ x = (g i').2) → J 111 x = I 111 x) → (∀ x, (∀ i', i' < i → ¬ x = (g i').1) → J 112 x = I 112 x) →
            ZW G mX12_grows fX12_grows lX12_grows 109 [zo G 84, .int (nI kb), .int (if i = n + 1 then -1 else nI (g i).1), .null, .null] [] S J L 0 0 Q := by
          intro ii
          induction ii with
          | zero =>
            intro i J hi l1 l2 l3 l4
            have : i = n + 1 := by omega
            subst this
            rw [if_pos rfl]
            refine vX12_grows_109 hS ⟨fun _ => ?_, fun hc => absurd rfl hc⟩
            refine h1 J m' π' ⟨fun b q1 q2 q3 q4 q5 q6 => by rw [l1 b q2 q3, kr b q1]; exact same1.1 b q1 q2 q3 q4 q5 q6, fun k q1 q2 => by rw [l1 84 (by decide) (by decide), k84 k q1 q2, e84]⟩ v1 ⟨fun i hi => ?_, fun x hx hno => ?_, fun k hk => ?_⟩ v2 v5 (by rw [l1 84 (by decide) (by decide)]; exact k50) (by rw [l1 84 (by decide) (by decide), k51, v6]; omega)
            · by_cases c : ∃ i', i' < n + 1 ∧ i = (g i').2
              · obtain ⟨i', q1, q2⟩ := c
                obtain ⟨y1, y2, y3, y4, y5⟩ := gk i' (by omega)
                refine Or.inr ⟨(g i').1, y1, by rw [q2]; exact (l2 i' q1).1, ?_⟩
                rw [q2, y4, v3 i' (by omega), y2]
              · rw [l3 i (fun i' hi' q => c ⟨i', hi', q⟩), v4 _ (x5 i hi) (fun i' hi' q => c ⟨i', by omega, by
                  obtain ⟨y1, y2, y3, y4, y5⟩ := gk i' hi'
                  exact inj_of x7 hi y3 (q.trans y4.symm)⟩)]
                exact r1 i hi
            · rw [v4 x hx (fun i' hi' q => hno _ (gk i' hi').2.2.1 (q.trans (gk i' hi').2.2.2.1.symm))]
              exact r2 x hx hno
            · by_cases c : ∃ i', i' < n + 1 ∧ k = (g i').1
              · obtain ⟨i', q1, q2⟩ := c
                obtain ⟨y1, y2, y3, y4, y5⟩ := gk i' (by omega)
                refine Or.inr ⟨(g i').2, y3, by rw [q2]; exact (l2 i' q1).2, ?_⟩
                rw [q2, y4, v3 i' (by omega), y2]
              · rw [l4 k (fun i' hi' q => c ⟨i', hi', q⟩)]
                have notp : ∀ i', i' ≤ n → ¬ it nx i' (hl kb) = hl k := fun i' hi' q => c ⟨i', by omega, by
                  obtain ⟨y1, y2, y3, y4, y5⟩ := gk i' hi'
                  exact inj_of x8 hk y1 (q.symm.trans y2.symm)⟩
                have mm : ∀ x, x < 48 → (m' x = hl k ↔ m x = hl k) := fun x hx => by
                  by_cases z : ∃ i', i' ≤ n ∧ x = hf (it nx i' (hl kb))
                  · obtain ⟨i', z1, z2⟩ := z
                    rw [z2, v3 i' z1]
                    refine ⟨fun q => absurd q (notp i' z1), fun q => ?_⟩
                    rcases (by omega : i' < n ∨ i' = n) with y | y
                    · rw [p3 i' y] at q
                      exact absurd q (notp (i' + 1) (by omega))
                    · rw [y, p4] at q
                      have := x6 k hk
                      omega
                  · rw [v4 x hx (fun i' hi' q => z ⟨i', hi', q⟩)]
                rcases r3 k hk with ⟨a1, a2⟩ | ⟨i, a1, a2, a3⟩
                · exact Or.inl ⟨a1, fun x hx q => a2 x hx ((mm x hx).mp q)⟩
                · exact Or.inr ⟨i, a1, a2, (mm _ (x5 i a1)).mpr a3⟩
          | succ ii ih =>
            intro i J hi l1 l2 l3 l4
            obtain ⟨y1, y2, y3, y4, y5⟩ := gk i (by omega)
            have e118 : J 118 (g i).1 = nI (g i).2 := by rw [l1 118 (by decide) (by decide), kr 118 (by decide)]; exact y5
            have nxt : J 111 (g i).2 = if i + 1 = n + 1 then -1 else nI (g (i + 1)).1 := by
              rw [l3 _ (fun i' hi' q => by have := id1 i i' (by omega) (by omega) q; omega)]
              rcases r1 _ y3 with ⟨a1, a2⟩ | ⟨k', a1, a2, a3⟩
              · by_cases c : i = n
                · rw [if_pos (by omega), a1]
                · have := p3 i (by omega)
                  rw [← y4, a2] at this
                  have := (p2 (i + 1) (by omega)).1
                  omega
              · by_cases c : i = n
                · have := p4
                  rw [← c, ← y4, a3] at this
                  have := x6 k' a1
                  omega
                · have e := p3 i (by omega)
                  rw [← y4, a3] at e
                  obtain ⟨z1, z2, -⟩ := gk (i + 1) (by omega)
                  rw [if_neg (by omega), a2, inj_of x8 a1 z1 (e.trans z2.symm)]
            rw [if_neg (by omega)]
            refine vX12_grows_109 hS ⟨fun q => absurd q (nI_neg1 (by omega)), fun _ => ?_⟩
            rw [znIc (show (g i).1 < 2147483648 by omega), e118, znIc (show (g i).2 < 2147483648 by omega), nxt]
            refine ⟨znIin (by omega) (by decide), znIin (by omega) (by decide), ih (i + 1) _ (by omega) (fun b q1 q2 => by rw [← u2_row _ _ _ _ q2, ← u2_row _ _ _ _ q1]; exact l1 b q1 q2) (fun i' hi' => ?_) (fun x hx => ?_) (fun x hx => ?_)⟩
            · by_cases c : i' = i
              · rw [c, u2_ne _ _ _ _ (by omega), u2_same, u2_same]
                exact ⟨rfl, rfl⟩
              · rw [u2_ne _ _ _ _ (by omega), u2_ne _ _ _ _ (fun z => c (id1 i' i (by omega) (by omega) z.2)), u2_ne _ _ _ _ (fun z => c (kd i' i (by omega) (by omega) z.2)), u2_ne _ _ _ _ (by omega)]
                exact l2 i' (by omega)
            · rw [u2_ne _ _ _ _ (by omega), u2_ne _ _ _ _ (fun z => hx i (by omega) z.2)]
              exact l3 x (fun i' hi' => hx i' (by omega))
            · rw [u2_ne _ _ _ _ (fun z => hx i (by omega) z.2), u2_ne _ _ _ _ (by omega)]
              exact l4 x (fun i' hi' => hx i' (by omega))
        have := loop (n + 1) 0 K (by omega) (fun _ _ _ => rfl) (fun i' hi' => absurd hi' (Nat.not_lt_zero _)) (fun x _ => by rw [kr 111 (by decide), e111]) (fun x _ => by rw [kr 112 (by decide), e112])
        rw [if_neg (by omega), k0] at this
        exact this
      · have hb := hb.resolve_right (fun ⟨kb, q1, q2, _⟩ => absurd (q2.symm.trans c) (nI_neg1 (by omega)))
        refine h0 (m_stop hok hm hπ hD (fun h q1 q2 => ?_)) I1 same1 e84
        obtain ⟨t, ht⟩ := q1
        obtain ⟨i, k', i1, i2, i3, i4⟩ := x11 _ _ ht
        rw [← i3, ← i4] at ht
        have f9 := (x9 i k' i1 i2).mp ht
        rw [← i4] at q2 ⊢
        have ge := zle.mp (hb.2 k' i2 f9.2.2.1 ((free k' i2).mpr q2))
        have le := hD.1.2.1 (hl k') (by have := x6 k' i2; omega)
        rw [b2 k' i2] at le ⊢
        have ge : (1000000 : Int) ≤ (I1 117 k').toInt := ge
        omega
      · rw [e84, x3] at hc
        exact absurd (Int32.le_refl _) hc
    | succ kk ih =>
      intro k b hk hb
      have kc : (nI k).toNatClampNeg = k := znIc (by omega)
      have keep : (I 115 k = 0 → I 112 k = -1 → (b = -1 ∧ 1000000 ≤ I1 117 k) ∨ (∃ kb, kb < k ∧ b = nI kb ∧ I1 117 kb ≤ I1 117 k) ∨ (1000000 ≤ I1 117 k)) → ZW G mX12_grows fX12_grows lX12_grows 8 [zo G 84, .int b, .int (nI k + 1), .null, .null] [] S I1 L 0 0 Q := fun hq => by
        rw [nI_1]
        refine ih (k + 1) b (by omega) ?_
        rcases hb with ⟨c1, c2⟩ | ⟨kb, c1, c2, c3, c4, c5⟩
        · refine Or.inl ⟨c1, fun k' hk' q1 q2 => ?_⟩
          rcases (by omega : k' < k ∨ k' = k) with y | y
          · exact c2 k' y q1 q2
          · rw [y] at q1 q2 ⊢
            rcases hq q1 q2 with z | ⟨kb, z1, z2, z3⟩ | z
            · exact z.2
            · exact absurd (z2.symm.trans c1) (nI_neg1 (by omega))
            · exact z
        · refine Or.inr ⟨kb, by omega, c2, c3, c4, fun k' hk' q1 q2 => ?_⟩
          rcases (by omega : k' < k ∨ k' = k) with y | y
          · exact c5 k' y q1 q2
          · rw [y] at q1 q2 ⊢
            rcases hq q1 q2 with z | ⟨kb', z1, z2, z3⟩ | z
            · exact absurd (c2.symm.trans z.1) (nI_neg1 (by omega))
            · have : kb = kb' := (nI_eq (by omega) (by omega)).mp (c2.symm.trans z2)
              rw [this]
              exact z3
            · lia
      have take : I 112 k = -1 → ¬ 1000000 ≤ I1 117 k → (b = -1 ∨ ∃ kb, kb < k ∧ b = nI kb ∧ ¬ I1 117 kb ≤ I1 117 k) → ZW G mX12_grows fX12_grows lX12_grows 8 [zo G 84, .int (nI k), .int (nI k + 1), .null, .null] [] S I1 L 0 0 Q := fun q1 q2 q3 => by
        rw [nI_1]
        refine ih (k + 1) (nI k) (by omega) (Or.inr ⟨k, by omega, rfl, q1, q2, fun k' hk' y1 y2 => ?_⟩)
        rcases (by omega : k' < k ∨ k' = k) with y | y
        · rcases hb with ⟨c1, c2⟩ | ⟨kb, c1, c2, c3, c4, c5⟩
          · have := c2 k' y y1 y2
            lia
          · rcases q3 with z | ⟨kb', z1, z2, z3⟩
            · exact absurd (c2.symm.trans z) (nI_neg1 (by omega))
            · have : kb = kb' := (nI_eq (by omega) (by omega)).mp (c2.symm.trans z2)
              rw [← this] at z3
              have := c5 k' y y1 y2
              lia
        · rw [y]
          exact Int32.le_refl _
      refine vX12_grows_8 hS ⟨fun hc => ?_, fun _ => ?_⟩
      · rw [e84, x3] at hc
        exact absurd hc (nI_ge (by omega) (by omega))
      · rw [kc, e115, e112]
        refine ⟨znIin (by omega) (by decide), fun c => keep (fun q => absurd q c), fun c => ⟨fun c2 => keep (fun _ q => absurd q c2), fun c2 => ⟨fun c3 => keep (fun _ _ => Or.inr (Or.inr c3)), fun c3 => ⟨fun c4 => take c2 c3 (Or.inl c4), fun c4 => ?_⟩⟩⟩⟩
        obtain ⟨kb, z1, z2, z3, z4, z5⟩ := hb.resolve_left (fun q => c4 q.1)
        rw [z2, znIc (show kb < 2147483648 by omega)]
        rw [z2] at keep
        exact ⟨znIin (by omega) (by decide), fun c5 => keep (fun _ _ => Or.inr (Or.inl ⟨kb, z1, rfl, c5⟩)), fun c5 => take c2 c3 (Or.inr ⟨kb, z1, z2, c5⟩)⟩
  exact key nh 0 (-1) (by omega) (Or.inl ⟨rfl, fun k' hk' => absurd hk' (Nat.not_lt_zero _)⟩)
theorem m_solves {G : Gp} {Q : zPost} {S : zSh} {I : zFI} {L : zFL} {nt nh : Nat} {tn hl : Nat → Nat} {F : Nat → Nat → Prop} {w : Nat → Nat → Int} {v1 v2 : Int32} (hS : zStd S) (hx : mX I nt nh tn hl F w) (s1 : 0 ≤ v1.toInt ∧ v1.toInt ≤ 100) (s2 : 0 ≤ v2.toInt ∧ v2.toInt ≤ 200)
    (h : ∀ I' m, mSame I I' → jOpt F w m → (I' 84 50).toInt = v1.toInt + jSz m → (I' 84 51).toInt = v2.toInt + jCo w m → Q none S I' L) : ZC G mX12_solves fX12_solves lX12_solves [zo G 84, .int v1, .int v2] S I L 0 0 Q := by
  have hx' := hx
  obtain ⟨x1, x2, x3, x4, x5, x6, x7, x8, x9, x10, x11, hok⟩ := hx
  have grow : ∀ (N : Nat) (J : zFI) (m : Nat → Nat) (π : Nat → Int), mSame I J → jVal F m → mR J nt nh tn hl m → jFe F w jAll m π → (J 84 50).toInt = v1.toInt + jSz m → (J 84 51).toInt = v2.toInt + jCo w m → 48 - jSz m ≤ N → ZW G mX12_solves fX12_solves lX12_solves 58 [zo G 84, .int v1, .int v2, .int 1] [] S J L 0 0 Q := by
    intro N
    induction N with
    | zero =>
      intro J m π j1 hm hr hπ e1 e2 hN
      have b1 := jCo_b hok hm
      have b2 := jSz_b (m := m)
      refine vX12_solves_58 hS ⟨fun q => absurd q (by decide), fun _ => m_grows hS (j1.mx hx') hm hr hπ (by omega) (by omega) (fun ho I1 z1 z2 => ⟨_, rfl, rfl, vX12_solves_58 hS ⟨fun _ => h I1 m (j1.trans z1) ho (by rw [z2]; exact e1) (by rw [z2]; exact e2), fun q => absurd rfl q⟩⟩) (fun I1 m' π' z1 z2 z3 z4 z5 z6 z7 => ?_)⟩
      have := jSz_b (m := m')
      omega
    | succ N ih =>
      intro J m π j1 hm hr hπ e1 e2 hN
      have b1 := jCo_b hok hm
      have b2 := jSz_b (m := m)
      refine vX12_solves_58 hS ⟨fun q => absurd q (by decide), fun _ => m_grows hS (j1.mx hx') hm hr hπ (by omega) (by omega) (fun ho I1 z1 z2 => ⟨_, rfl, rfl, vX12_solves_58 hS ⟨fun _ => h I1 m (j1.trans z1) ho (by rw [z2]; exact e1) (by rw [z2]; exact e2), fun q => absurd rfl q⟩⟩) (fun I1 m' π' z1 z2 z3 z4 z5 z6 z7 => ⟨_, rfl, rfl, ih I1 m' π' (j1.trans z1) z2 z3 z4 (by omega) (by omega) (by omega)⟩)⟩
  have clear2 : ∀ (kk k : Nat) (J : zFI), k + kk = nh → mSame I J → (∀ i, i < nt → J 111 i = -1) → (∀ k', k' < k → J 112 k' = -1) → ZW G mX12_solves fX12_solves lX12_solves 25 [zo G 84, .int v1, .int v2, .int (nI k)] [] S J L 0 0 Q := by
    intro kk
    induction kk with
    | zero =>
      intro k J hk j1 j2 j3
      have : k = nh := by omega
      subst this
      refine vX12_solves_25 hS ⟨fun _ => ?_, fun hc => ?_⟩
      · have z0 : jSz (fun _ => 50) = 0 := sm_nil (fun _ _ => if_pos rfl)
        have c0 : jCo w (fun _ => 50) = 0 := sm_nil (fun _ _ => if_pos rfl)
        refine grow 48 _ (fun _ => 50) (fun _ => 0) (j1.trans ⟨fun b q1 _ _ _ _ _ => by rw [← u2_row _ _ _ _ q1, ← u2_row _ _ _ _ q1], fun i q1 q2 => by rw [u2_ne _ _ _ _ (fun z => q2 z.2), u2_ne _ _ _ _ (fun z => q1 z.2)]⟩) ⟨fun _ _ => Or.inl rfl, fun _ _ _ _ q => absurd rfl q⟩ ⟨fun i hi => Or.inl ⟨j2 i hi, rfl⟩, fun _ _ _ => rfl, fun k' hk' => Or.inl ⟨j3 k' hk', fun t _ q => ?_⟩⟩ (fun u v c hE => ?_) ?_ ?_ (by rw [z0]; omega)
        · have := x6 k' hk'
          have q : 50 = hl k' := q
          omega
        · show (0 : Int) ≤ c + 0
          rcases hE with ⟨a1, a2, a3, a4⟩ | ⟨a1, a2, a3, a4⟩ | ⟨a1, a2, a3, a4, a5⟩ | ⟨a1, a2, a3, a4, a5⟩ | ⟨a1, a2, a3, a4⟩ | ⟨a1, a2, a3, a4⟩
          · have := hok _ _ a1
            omega
          · have := (hok _ _ a1).2.1
            have a3 : 50 = u := a3
            omega
          · omega
          · exact absurd rfl a4
          · omega
          · omega
        · rw [z0, u2_ne _ _ _ _ (by omega), u2_same]
          omega
        · rw [c0, u2_same]
          omega
      · rw [j1.2 43 (by decide) (by decide), x3] at hc
        exact absurd (Int32.le_refl _) hc
    | succ kk ih =>
      intro k J hk j1 j2 j3
      refine vX12_solves_25 hS ⟨fun hc => ?_, fun _ => ?_⟩
      · rw [j1.2 43 (by decide) (by decide), x3] at hc
        exact absurd hc (nI_ge (by omega) (by omega))
      · rw [znIc (show k < 2147483648 by omega), nI_1]
        refine ⟨znIin (by omega) (by decide), ih (k + 1) _ (by omega) (j1.trans ⟨fun b _ _ q3 _ _ _ => (u2_row _ _ _ _ q3).symm, fun i _ _ => u2_ne _ _ _ _ (by omega)⟩) (fun i hi => by rw [u2_ne _ _ _ _ (by omega)]; exact j2 i hi) (fun k' hk' => ?_)⟩
        by_cases q : k' = k
        · rw [q, u2_same]
        · rw [u2_ne _ _ _ _ (fun z => q z.2)]
          exact j3 k' (by omega)
  have clear1 : ∀ (ii i : Nat) (J : zFI), i + ii = nt → mSame I J → (∀ i', i' < i → J 111 i' = -1) → ZW G mX12_solves fX12_solves lX12_solves 2 [zo G 84, .int v1, .int v2, .int (nI i)] [] S J L 0 0 Q := by
    intro ii
    induction ii with
    | zero =>
      intro i J hi j1 j2
      have : i = nt := by omega
      subst this
      refine vX12_solves_2 hS ⟨fun _ => clear2 nh 0 J (by omega) j1 j2 (fun k' hk' => absurd hk' (Nat.not_lt_zero _)), fun hc => ?_⟩
      rw [j1.2 42 (by decide) (by decide), x1] at hc
      exact absurd (Int32.le_refl _) hc
    | succ ii ih =>
      intro i J hi j1 j2
      refine vX12_solves_2 hS ⟨fun hc => ?_, fun _ => ?_⟩
      · rw [j1.2 42 (by decide) (by decide), x1] at hc
        exact absurd hc (nI_ge (by omega) (by omega))
      · rw [znIc (show i < 2147483648 by omega), nI_1]
        refine ⟨znIin (by omega) (by decide), ih (i + 1) _ (by omega) (j1.trans ⟨fun b _ q2 _ _ _ _ => (u2_row _ _ _ _ q2).symm, fun i _ _ => u2_ne _ _ _ _ (by omega)⟩) (fun i' hi' => ?_)⟩
        by_cases q : i' = i
        · rw [q, u2_same]
        · rw [u2_ne _ _ _ _ (fun z => q z.2)]
          exact j2 i' (by omega)
  exact ZC.of' (vX12_solves_0 hS (clear1 nt 0 I (by omega) (mSame.refl I) (fun i' hi' => absurd hi' (Nat.not_lt_zero _)))) rfl (Nat.le_of_ble_eq_true rfl) rfl
