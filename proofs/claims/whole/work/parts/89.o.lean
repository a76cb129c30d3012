def rX (B K : zFI) : Prop := (∀ b, b ∉ ([84, 111, 112, 113, 114, 115, 116, 117, 118, 119, 120, 121, 122, 123] : List Nat) → K b = B b) ∧ ∀ k, k ∉ ([50, 51, 52, 53] : List Nat) → K 84 k = B 84 k
theorem rX.trans {I J K : zFI} (h : rX I J) (g : rX J K) : rX I K := ⟨fun b hb => (g.1 b hb).trans (h.1 b hb), fun k hk => (g.2 k hk).trans (h.2 k hk)⟩
theorem pX.rx {I J : zFI} (h : pX I J) : rX I J := by
  refine ⟨fun b hb => h.1 b (fun q => hb ?_), fun k hk => h.2 k (fun q => hk (by rw [q]; decide)) (fun q => hk (by rw [q]; decide))⟩
  have : ∀ b, b ∈ ([84, 111, 112, 113, 114, 115, 116, 117, 118] : List Nat) → b ∈ ([84, 111, 112, 113, 114, 115, 116, 117, 118, 119, 120, 121, 122, 123] : List Nat) := by decide
  exact this b q
theorem rX_row {I J : zFI} {a k : Nat} {v : Int32} (h : rX I J) (ha : a ∈ ([111, 112, 113, 114, 115, 116, 117, 118, 119, 120, 121, 122, 123] : List Nat)) : rX I (u2 J a k v) := by
  have e1 : ∀ b, b ∈ ([111, 112, 113, 114, 115, 116, 117, 118, 119, 120, 121, 122, 123] : List Nat) → b ∈ ([84, 111, 112, 113, 114, 115, 116, 117, 118, 119, 120, 121, 122, 123] : List Nat) ∧ b ≠ 84 := by decide
  obtain ⟨x1, x3⟩ := e1 a ha
  refine ⟨fun b hb => ?_, fun k' h1 => ?_⟩
  · rw [← u2_row _ _ _ _ (show b ≠ a from fun q => hb (by rw [q]; exact x1))]
    exact h.1 b hb
  · rw [u2_ne _ _ _ _ (fun q => x3 q.1.symm)]
    exact h.2 k' h1
theorem rX_84 {I J : zFI} {k : Nat} {v : Int32} (h : rX I J) (hk : k ∈ ([50, 51, 52, 53] : List Nat)) : rX I (u2 J 84 k v) := by
  refine ⟨fun b hb => ?_, fun k' hk' => ?_⟩
  · rw [← u2_row _ _ _ _ (show b ≠ 84 from fun q => hb (by rw [q]; decide))]
    exact h.1 b hb
  · rw [u2_ne _ _ _ _ (fun q => hk' (by rw [q.2]; exact hk))]
    exact h.2 k' hk'
/-- the other custom's rows are the same -/
def zOc (I J : zFI) (c : Nat) : Prop := (∀ y, y < 48 * c ∨ 48 * c + 48 ≤ y → J 119 y = I 119 y ∧ J 120 y = I 120 y) ∧ ∀ y, ¬ y = c → J 121 y = I 121 y ∧ J 122 y = I 122 y ∧ J 123 y = I 123 y
def zJr (I J : zFI) : Prop := (∀ b, b ∉ ([84, 107, 108, 109, 110, 111, 112, 113, 114, 115, 116, 117, 118, 119, 120, 121, 122, 123] : List Nat) → J b = I b) ∧ J 77 0 = I 77 0 ∧ ∀ k, k ∉ ([39, 42, 43, 50, 51, 52, 53] : List Nat) → J 84 k = I 84 k
theorem zJr.trans {I J K : zFI} (h : zJr I J) (g : zJr J K) : zJr I K := ⟨fun b hb => (g.1 b hb).trans (h.1 b hb), g.2.1.trans h.2.1, fun k hk => (g.2.2 k hk).trans (h.2.2 k hk)⟩
theorem zJr.scr {I J : zFI} (h : zJr I J) : zScrd I J := by
  have e1 : ∀ b, b ∈ ([84, 107, 108, 109, 110, 111, 112, 113, 114, 115, 116, 117, 118, 119, 120, 121, 122, 123] : List Nat) → b ∈ zScr := by decide
  have e2 : ∀ k, k ∈ ([39, 42, 43, 50, 51, 52, 53] : List Nat) → k ∉ zKeep84 := by decide
  exact ⟨fun b hb => h.1 b (fun q => hb (e1 b q)), h.2.1, fun k hk => h.2.2 k (fun q => e2 k q hk)⟩
theorem zJr.of {I J K : zFI} (h : zSr I J) (g : rX J K) : zJr I K := by
  have e1 : ∀ b, b ∉ ([84, 107, 108, 109, 110, 111, 112, 113, 114, 115, 116, 117, 118, 119, 120, 121, 122, 123] : List Nat) → b ∉ ([84, 107, 108, 109, 110, 111, 112, 113, 114, 115, 116, 117, 118] : List Nat) ∧ b ∉ ([84, 111, 112, 113, 114, 115, 116, 117, 118, 119, 120, 121, 122, 123] : List Nat) := fun b hb => by
    simp only [List.mem_cons, List.mem_nil_iff, or_false, not_or] at hb ⊢
    omega
  have e2 : ∀ k, k ∉ ([39, 42, 43, 50, 51, 52, 53] : List Nat) → k ∉ ([50, 51, 52, 53] : List Nat) := fun k hk => by
    simp only [List.mem_cons, List.mem_nil_iff, or_false, not_or] at hk ⊢
    omega
  exact ⟨fun b hb => (g.1 b (e1 b hb).2).trans (h.1 b (e1 b hb).1), by rw [g.1 77 (by decide)]; exact h.2.1, fun k hk => (g.2 k (e2 k hk)).trans (h.2.2 k hk)⟩
theorem m_findJoin {G : Gp} {Q : zPost} {S : zSh} {I : zFI} {L : zFL} {n jn mn tl ln c r : Nat} {dl : Nat → Prop} (h : iMid S I n jn mn tl ln) (hr : zCu r) (hc : c ≤ 1) (hCu : iCu1 I r c) (hid : ∀ x, x < zsj I jn → (c = 1 → (I 119 x = -1 ↔ dl x)) ∧ (c = 0 → dl x))
    (q : ∀ (I' : zFI) (M : Nat → Nat), zJr I I' → zOc I I' c → jBest (zF I r (zsj I jn) dl) (zw I) M → mOut I' c jn (zF I r (zsj I jn) dl) (zw I) M → Q none S I' L) : ZC G mX12_findJoin fX12_findJoin lX12_findJoin [zo G 84, .int (nI c)] S I L 0 0 Q := by
  have hA := h
  obtain ⟨hS, hNow, hTim, hJnt, hMrk, hShn, hTap, hFlt, hCus, hRng, hLea, hWrd⟩ := h
  obtain ⟨j1, j2, j3, j4, j5, j6⟩ := id hJnt
  have sl := zsj_le I jn
  refine ZC.of' (vX12_findJoin_0 hS (m_findRows hA hr hc hCu hid (fun I1 nt nh tn hl z1 mx mt mh l108 l109 k52 k53 => ⟨rfl, rfl, m_solves hS mx (by decide) (by decide) (fun I2 m0 sm2 opt f1 f2 => ⟨rfl, rfl, ?_⟩)⟩))) rfl (Nat.le_of_ble_eq_true rfl) rfl
  generalize zF I r (zsj I jn) dl = F at *
  generalize zw I = w at *
  have mx2 := sm2.mx mx
  obtain ⟨x1, x2, x3, x4, x5, x6, x7, x8, x9, x10, x11, hok⟩ := id mx2
  have r2 : ∀ b, b ∉ ([84, 111, 112, 113, 114, 115, 116, 117, 118] : List Nat) → I2 b = I1 b := sm2.px.1
  have o1 : ∀ i, i < nt → I2 114 i = 0 := fun i hi => by rw [sm2.1 114 (by decide) (by decide) (by decide) (by decide) (by decide) (by decide)]; exact (l108 i hi).2
  have o2 : ∀ k, k < nh → I2 115 k = 0 := fun k hk => by rw [sm2.1 115 (by decide) (by decide) (by decide) (by decide) (by decide) (by decide)]; exact (l109 k hk).2
  have o3 : I2 84 52 = -1 := (sm2.2 52 (by decide) (by decide)).trans k52
  have f1 : (I2 84 50).toInt = jSz m0 := by rw [f1]; show (0 : Int) + _ = _; omega
  have f2 : (I2 84 51).toInt = jCo w m0 := by rw [f2]; show (0 : Int) + _ = _; omega
  have zI2 : zSr I I2 := z1.trans sm2.sr
  have e13 : I2 84 13 = nI jn := (zI2.2.2 13 (by decide)).trans j3
  refine m_trials hS mx2 o1 o2 o3 opt f1 f2 (fun J M a s pJ best l113 l50 => ?_)
  have bs := jSz_b (m := m0)
  have ee := j_opt_eq opt best.1
  have inv119 : ∀ b, b = 119 ∨ b = 120 ∨ b = 121 ∨ b = 122 ∨ b = 123 → I2 b = I b := fun b hb => zI2.1 b (by rcases hb with y | y | y | y | y <;> rw [y] <;> decide)
  have tnh : ∀ i i', i < nt → i' < nt → ¬ M (tn i) = 50 → ¬ M (tn i') = 50 → ¬ tn i' = M (tn i) := fun i i' hi hi' y y' e => by
    have a1 := (best.1.1.1 _ (x5 i hi)).resolve_left y
    have a2 := (best.1.1.1 _ (x5 i' hi')).resolve_left y'
    rw [e] at a2
    exact (hok _ _ a1).2.2.2.2.1 _ a2
  -- the last loop
  have last : ∀ (d i : Nat) (K : zFI), i + d = nt → rX I2 K → (∀ i', i' < nt → K 114 i' = 0) → (∀ k, k < nh → K 115 k = 0) → (∀ i, i < nt → (K 113 i = -1 ∧ M (tn i) = 50) ∨ ∃ k, k < nh ∧ K 113 i = nI k ∧ M (tn i) = hl k) → zOc I K c → K 121 c = I2 84 50 → K 122 c = I2 84 51 → (K 123 c).toInt = sm (fun i => zti F w M (tn i)) i →
      (∀ i', i' < i → ¬ M (tn i') = 50 → K 119 (48 * c + tn i') = nI (M (tn i')) ∧ K 119 (48 * c + M (tn i')) = nI (tn i') ∧ K 120 (48 * c + tn i') = zfl (jTie F w M (tn i')) ∧ K 120 (48 * c + M (tn i')) = zfl (jTie F w M (tn i'))) → (∀ x, x < jn → (∀ i', i' < i → ¬ M (tn i') = 50 → ¬ x = tn i' ∧ ¬ x = M (tn i')) → K 119 (48 * c + x) = -1) →
      ZW G mX12_findJoin fX12_findJoin lX12_findJoin 314 [zo G 84, .int (nI c), .int (I2 84 50), .int (I2 84 51), .int a, .int s, .int (nI i), .null, .null, .null] [] S K L 0 0 Q := by
    intro d
    induction d with
    | zero =>
      intro i K hi rK k14 k15 k13 oc k121 k122 k123 d1 d2
      have : nt = i := by omega
      subst this
      refine vX12_findJoin_314 hS ⟨fun _ => ?_, fun hc2 => ?_⟩
      · have kr : ∀ b, b ≠ 84 → (u2 (u2 K 84 52 (-1)) 84 53 (-1)) b = K b := fun b hb => by rw [← u2_row _ _ _ _ hb, ← u2_row _ _ _ _ hb]
        refine q _ M (zJr.of zI2 (rX_84 (rX_84 rK (by decide)) (by decide))) ⟨fun y hy => ?_, fun y hy => ?_⟩ best ⟨?_, ?_, ?_, fun t ht hM => ?_, fun x hx hx2 hx3 => ?_⟩
        · rw [kr 119 (by decide), kr 120 (by decide)]
          exact oc.1 y hy
        · rw [kr 121 (by decide), kr 122 (by decide), kr 123 (by decide)]
          exact oc.2 y hy
        · rw [kr 121 (by decide), k121, f1, ee.1]
        · rw [kr 122 (by decide), k122, f2, ee.2]
        · rw [kr 123 (by decide), k123]
          exact sm_idx (g := zti F w M) x5 x7 (fun x hx hno => zti_0 (fun y => y.1 (l50 x hx hno)))
        · rw [kr 119 (by decide), kr 120 (by decide)]
          obtain ⟨i, i1, i2⟩ : ∃ i, i < nt ∧ t = tn i := Classical.byContradiction (fun y => hM (l50 t ht (fun i hi z => y ⟨i, hi, z⟩)))
          rw [i2] at hM ⊢
          exact d1 i i1 hM
        · rw [kr 119 (by decide)]
          refine d2 x hx (fun i hi y => ⟨fun z => y (by rw [← z]; exact hx2), fun z => hx3 _ (x5 i hi) z.symm⟩)
      · rw [rK.2 42 (by decide), x1] at hc2
        exact absurd (Int32.le_refl _) hc2
    | succ d ih =>
      intro i K hi rK k14 k15 k13 oc k121 k122 k123 d1 d2
      have hin : i < nt := by omega
      have ic : (nI i).toNatClampNeg = i := znIc (by omega)
      have t48 := x5 i hin
      have k108 : ∀ i, i < nt → K 108 i = nI (tn i) := fun i hi => by rw [rK.1 108 (by decide), r2 108 (by decide)]; exact (l108 i hi).1
      have k109 : ∀ k, k < nh → K 109 k = nI (hl k) := fun k hk => by rw [rK.1 109 (by decide), r2 109 (by decide)]; exact (l109 k hk).1
      refine vX12_findJoin_314 hS ⟨fun hc2 => ?_, fun _ => ?_⟩
      · rw [rK.2 42 (by decide), x1] at hc2
        exact absurd hc2 (nI_ge (by omega) (by omega))
      · rw [ic, k108 i hin]
        refine ⟨znIin (by omega) (by decide), fun y => ?_, fun y => ?_⟩
        · obtain ⟨k, kk1, kk2, kk3⟩ := (k13 i hin).resolve_left (fun z => y z.1)
          have h48 := x6 k kk1
          rw [kk2, znIc (show k < 2147483648 by omega), k109 k kk1, zx48, zx48, znIc (show 48 * c + tn i < 2147483648 by omega), znIc (show 48 * c + hl k < 2147483648 by omega), znIc (show c < 2147483648 by omega)]
          refine ⟨znIin (by omega) (by decide), znIin (by omega) (by decide), znIin (by omega) (by decide), ?_⟩
          have Mn : ¬ M (tn i) = 50 := by omega
          have fih := (best.1.1.1 _ t48).resolve_left Mn
          rw [kk3] at fih
          have nth : ¬ tn i = hl k := fun z => by
            have := (hok _ _ fih).2.2.2.2.1
            rw [← z] at this
            rw [← z] at fih
            exact this _ fih
          generalize hK' : u2 (u2 (u2 (u2 K 119 (48 * c + tn i) (nI (hl k))) 119 (48 * c + hl k) (nI (tn i))) 84 52 (nI i)) 84 53 (nI k) = K'
          have rK' : rX I2 K' := by
            rw [← hK']
            exact rX_84 (rX_84 (rX_row (rX_row rK (by decide)) (by decide)) (by decide)) (by decide)
          have kr : ∀ b, b ≠ 84 → b ≠ 119 → K' b = K b := fun b h1 h2 => by rw [← hK', ← u2_row _ _ _ _ h1, ← u2_row _ _ _ _ h1, ← u2_row _ _ _ _ h2, ← u2_row _ _ _ _ h2]
          have k119 : ∀ x, K' 119 x = if x = 48 * c + hl k then nI (tn i) else if x = 48 * c + tn i then nI (hl k) else K 119 x := fun x => by
            rw [← hK', u2_ne _ _ _ _ (by omega), u2_ne _ _ _ _ (by omega)]
            by_cases z : x = 48 * c + hl k
            · rw [if_pos z, z, u2_same]
            · rw [if_neg z, u2_ne _ _ _ _ (fun v => z v.2)]
              by_cases z2 : x = 48 * c + tn i
              · rw [if_pos z2, z2, u2_same]
              · rw [if_neg z2, u2_ne _ _ _ _ (fun v => z2 v.2)]
          have k52' : K' 84 52 = nI i := by rw [← hK', u2_ne _ _ _ _ (by omega), u2_same]
          have k53' : K' 84 53 = nI k := by rw [← hK', u2_same]
          have mx3 : mX K' nt nh tn hl (fun t h => F t h ∧ ¬ (t = tn i ∧ h = hl k)) w := by
            refine mX_sub mx2 o1 o2 o3 (rK'.2 42 (by decide)) (rK'.2 43 (by decide)) (rK'.1 110 (by decide)) (fun i' k' hi' hk' => ?_) (fun t h z => z.1)
            rw [kr 114 (by decide) (by decide), kr 115 (by decide) (by decide), k14 i' hi', k15 k' hk', k52', k53']
            constructor
            · rintro ⟨z1, z2⟩
              refine ⟨z1, rfl, rfl, fun z => z2 ?_⟩
              rw [(nI_eq (by omega) (by omega)).mp z.1, (nI_eq (by omega) (by omega)).mp z.2]
              exact ⟨rfl, rfl⟩
            · rintro ⟨z1, -, -, z2⟩
              refine ⟨z1, fun z => z2 ?_⟩
              rw [inj_of x7 hi' hin z.1, inj_of x8 hk' kk1 z.2]
              exact ⟨rfl, rfl⟩
          refine m_solves hS mx3 (by decide) (by decide) (fun K1 m2 s3 om g1 g2 => ⟨rfl, rfl, ?_⟩)
          have g1 : (K1 84 50).toInt = jSz m2 := by rw [g1]; show (0 : Int) + _ = _; omega
          have g2 : (K1 84 51).toInt = jCo w m2 := by rw [g2]; show (0 : Int) + _ = _; omega
          have must := f_must (t := tn i) (h := hl k) (fun x y => Iff.rfl) t48 h48 best.1 kk3 om
          have rK1 : rX I2 K1 := rK'.trans s3.px.rx
          have r1 : ∀ b, b = 113 ∨ b = 114 ∨ b = 115 ∨ b = 120 ∨ b = 121 ∨ b = 122 ∨ b = 123 → K1 b = K b := fun b hb => by
            rw [s3.1 b (by omega) (by omega) (by omega) (by omega) (by omega) (by omega)]
            exact kr b (by omega) (by omega)
          have r119 : K1 119 = K' 119 := s3.1 119 (by decide) (by decide) (by decide) (by decide) (by decide) (by decide)
          have same : K1 84 50 = I2 84 50 ↔ jSz m2 = jSz M := by rw [zeq, g1, f1, ee.1]
          have same2 : K1 84 51 = I2 84 51 ↔ jCo w m2 = jCo w M := by rw [zeq, g2, f2, ee.2]
          -- on with the flag b
          have on : ∀ (b : Int32) (N : zFI), b = zfl (jTie F w M (tn i)) → (∀ x, x ≠ 120 → x ≠ 123 → N x = K1 x) → (∀ x, N 120 x = if x = 48 * c + hl k then b else if x = 48 * c + tn i then b else K1 120 x) → (N 123 c).toInt = (K1 123 c).toInt + zti F w M (tn i) → (∀ y, ¬ y = c → N 123 y = K1 123 y) → ZW G mX12_findJoin fX12_findJoin lX12_findJoin 314 [zo G 84, .int (nI c), .int (I2 84 50), .int (I2 84 51), .int a, .int s, .int (nI i + 1), .null, .null, .null] [] S N L 0 0 Q := fun b N hb n1 n120 n123 n123o => by
            rw [nI_1]
            have n119 : N 119 = K' 119 := by rw [n1 119 (by decide) (by decide), r119]
            refine ih (i + 1) N (by omega) ⟨fun x hx => ?_, fun x hx => by rw [n1 84 (by decide) (by decide)]; exact rK1.2 x hx⟩ (fun i' hi' => by rw [n1 114 (by decide) (by decide), r1 114 (by omega)]; exact k14 i' hi') (fun k' hk' => by rw [n1 115 (by decide) (by decide), r1 115 (by omega)]; exact k15 k' hk') (fun i' hi' => by rw [n1 113 (by decide) (by decide), r1 113 (by omega)]; exact k13 i' hi') ⟨fun y hy => ?_, fun y hy => ?_⟩ (by rw [n1 121 (by decide) (by decide), r1 121 (by omega)]; exact k121) (by rw [n1 122 (by decide) (by decide), r1 122 (by omega)]; exact k122) ?_ (fun i' hi' hM => ?_) (fun x hx hno => ?_)
            · rw [n1 x (fun z => hx (by rw [z]; decide)) (fun z => hx (by rw [z]; decide))]
              exact rK1.1 x hx
            · rw [n119, k119, n120, if_neg (by omega), if_neg (by omega), if_neg (by omega), if_neg (by omega), r1 120 (by omega)]
              exact oc.1 y hy
            · rw [n1 121 (by decide) (by decide), n1 122 (by decide) (by decide), n123o y hy, r1 121 (by omega), r1 122 (by omega), r1 123 (by omega)]
              exact oc.2 y hy
            · rw [n123, r1 123 (by omega), k123, sm_succ]
            · rw [n119, k119, k119, n120, n120]
              by_cases z : i' = i
              · rw [z, kk3, if_neg (by omega), if_pos rfl, if_pos rfl, if_neg (by omega), if_pos rfl, if_pos rfl]
                exact ⟨rfl, rfl, hb, hb⟩
              · have t1 : ¬ tn i' = tn i := fun v => z (inj_of x7 (by omega) hin v)
                have t2 : ¬ tn i' = hl k := by rw [← kk3]; exact tnh i i' hin (by omega) Mn hM
                have t3 : ¬ M (tn i') = hl k := fun v => t1 (best.1.1.2 _ _ (x5 i' (by omega)) t48 hM (v.trans kk3.symm))
                have t4 : ¬ M (tn i') = tn i := fun v => tnh i' i (by omega) hin hM Mn v.symm
                rw [if_neg (by omega), if_neg (by omega), if_neg (by omega), if_neg (by omega), if_neg (by omega), if_neg (by omega), if_neg (by omega), if_neg (by omega), r1 120 (by omega)]
                exact d1 i' (by omega) hM
            · obtain ⟨y1, y2⟩ := hno i (by omega) Mn
              rw [kk3] at y2
              rw [n119, k119, if_neg (by omega), if_neg (by omega)]
              exact d2 x hx (fun i' hi' => hno i' (by omega))
          have b123 : 0 ≤ (K1 123 c).toInt ∧ (K1 123 c).toInt ≤ 48 := by
            rw [r1 123 (by omega), k123]
            have z1 := sm_le (f := fun _ => 0) (g := fun i => zti F w M (tn i)) (n := i) (fun x _ => by
              by_cases z : ¬ M (tn x) = 50 ∧ jTie F w M (tn x)
              · rw [zti_1 z.1 z.2]; decide
              · rw [zti_0 z]; decide)
            have z2 := sm_le (f := fun i => zti F w M (tn i)) (g := fun _ => 1) (n := i) (fun x _ => by
              by_cases z : ¬ M (tn x) = 50 ∧ jTie F w M (tn x)
              · rw [zti_1 z.1 z.2]; decide
              · rw [zti_0 z]; decide)
            rw [sm_const] at z1 z2
            omega
          have yes : jTie F w M (tn i) → ZW G mX12_findJoin fX12_findJoin lX12_findJoin 314 [zo G 84, .int (nI c), .int (I2 84 50), .int (I2 84 51), .int a, .int s, .int (nI i + 1), .null, .null, .null] [] S (u2 (u2 (u2 K1 120 (48 * c + tn i) 1) 120 (48 * c + hl k) 1) 123 c (K1 123 c + 1)) L 0 0 Q := fun tie => by
            refine on 1 _ (zfl_1 tie).symm (fun x h1 h2 => by rw [← u2_row _ _ _ _ h2, ← u2_row _ _ _ _ h1, ← u2_row _ _ _ _ h1]) (fun x => ?_) ?_ (fun y hy => by rw [u2_ne _ _ _ _ (fun z => hy z.2), u2_ne _ _ _ _ (by omega), u2_ne _ _ _ _ (by omega)])
            · rw [u2_ne _ _ _ _ (by omega)]
              by_cases z : x = 48 * c + hl k
              · rw [if_pos z, z, u2_same]
              · rw [if_neg z, u2_ne _ _ _ _ (fun v => z v.2)]
                by_cases z2 : x = 48 * c + tn i
                · rw [if_pos z2, z2, u2_same]
                · rw [if_neg z2, u2_ne _ _ _ _ (fun v => z2 v.2)]
            · rw [u2_same, zinc (by omega), zti_1 Mn tie]
          have no : ¬ jTie F w M (tn i) → ZW G mX12_findJoin fX12_findJoin lX12_findJoin 314 [zo G 84, .int (nI c), .int (I2 84 50), .int (I2 84 51), .int a, .int s, .int (nI i + 1), .null, .null, .null] [] S (u2 (u2 K1 120 (48 * c + tn i) 0) 120 (48 * c + hl k) 0) L 0 0 Q := fun tie => by
            refine on 0 _ (zfl_0 tie).symm (fun x h1 h2 => by rw [← u2_row _ _ _ _ h1, ← u2_row _ _ _ _ h1]) (fun x => ?_) ?_ (fun y hy => by rw [u2_ne _ _ _ _ (by omega), u2_ne _ _ _ _ (by omega)])
            · by_cases z : x = 48 * c + hl k
              · rw [if_pos z, z, u2_same]
              · rw [if_neg z, u2_ne _ _ _ _ (fun v => z v.2)]
                by_cases z2 : x = 48 * c + tn i
                · rw [if_pos z2, z2, u2_same]
                · rw [if_neg z2, u2_ne _ _ _ _ (fun v => z2 v.2)]
            · rw [u2_ne _ _ _ _ (by omega), u2_ne _ _ _ _ (by omega), zti_0 (fun z => tie z.2)]
              omega
          have hvc : vp_in (nI c) 2 := znIin (by omega) (by decide)
          refine ⟨fun z => ⟨fun v => absurd v (by decide), fun _ => ⟨hvc, yes (Classical.byContradiction (fun nt2 => z (same.mpr (must.mpr nt2).1)))⟩⟩, fun z => ⟨fun z2 => ⟨fun _ => no (must.mp ⟨same.mp z, same2.mp z2⟩), fun v => absurd rfl v⟩, fun z2 => ⟨fun v => absurd v (by decide), fun _ => ⟨hvc, yes (Classical.byContradiction (fun nt2 => z2 (same2.mpr (must.mpr nt2).2)))⟩⟩⟩⟩
        · have M50 : M (tn i) = 50 := by
            rcases k13 i hin with z | ⟨k, z1, z2, -⟩
            · exact z.2
            · rw [z2] at y
              exact absurd y (nI_neg1 (by omega))
          rw [nI_1]
          refine ih (i + 1) K (by omega) rK k14 k15 k13 oc k121 k122 ?_ (fun i' hi' hM => ?_) (fun x hx hno => d2 x hx (fun i' hi' => hno i' (by omega)))
          · rw [sm_succ, zti_0 (fun z => z.1 M50), Int.add_zero]
            exact k123
          · rcases (by omega : i' < i ∨ i' = i) with z | z
            · exact d1 i' z hM
            · rw [z] at hM
              exact absurd M50 hM
  -- the rows begun
  have rows : ∀ (d x : Nat) (K : zFI), x + d = jn → rX I2 K → (∀ i', i' < nt → K 114 i' = 0) → (∀ k, k < nh → K 115 k = 0) → K 113 = J 113 → zOc I K c → (∀ x', x' < x → K 119 (48 * c + x') = -1) → ZW G mX12_findJoin fX12_findJoin lX12_findJoin 249 [zo G 84, .int (nI c), .int (I2 84 50), .int (I2 84 51), .int a, .int s, .int (nI x), .null, .null, .null] [] S K L 0 0 Q := by
    intro d
    induction d with
    | zero =>
      intro x K hx rK k14 k15 k13 oc k119
      have : jn = x := by omega
      subst this
      refine vX12_findJoin_249 hS ⟨fun _ => ?_, fun hc2 => ?_⟩
      · rw [znIc (show c < 2147483648 by omega)]
        refine ⟨znIin (by omega) (by decide), last nt 0 _ (by omega) (rX_row (rX_row (rX_row rK (by decide)) (by decide)) (by decide)) (fun i hi => by rw [u2_ne _ _ _ _ (by omega), u2_ne _ _ _ _ (by omega), u2_ne _ _ _ _ (by omega)]; exact k14 i hi) (fun k hk => by rw [u2_ne _ _ _ _ (by omega), u2_ne _ _ _ _ (by omega), u2_ne _ _ _ _ (by omega)]; exact k15 k hk) (fun i hi => by rw [u2_ne _ _ _ _ (by omega), u2_ne _ _ _ _ (by omega), u2_ne _ _ _ _ (by omega), k13]; exact l113 i hi) ⟨fun y hy => by rw [u2_ne _ _ _ _ (by omega), u2_ne _ _ _ _ (by omega), u2_ne _ _ _ _ (by omega)]; rw [u2_ne _ _ _ _ (by omega), u2_ne _ _ _ _ (by omega), u2_ne _ _ _ _ (by omega)]; exact oc.1 y hy, fun y hy => ?_⟩ ?_ ?_ ?_ (fun i' hi' => absurd hi' (Nat.not_lt_zero _)) (fun x hx _ => by rw [u2_ne _ _ _ _ (by omega), u2_ne _ _ _ _ (by omega), u2_ne _ _ _ _ (by omega)]; exact k119 x hx)⟩
        · obtain ⟨z1, z2, z3⟩ := oc.2 y hy
          refine ⟨?_, ?_, ?_⟩
          · rw [u2_ne _ _ _ _ (by omega), u2_ne _ _ _ _ (by omega), u2_ne _ _ _ _ (fun v => hy v.2)]
            exact z1
          · rw [u2_ne _ _ _ _ (by omega), u2_ne _ _ _ _ (fun v => hy v.2), u2_ne _ _ _ _ (by omega)]
            exact z2
          · rw [u2_ne _ _ _ _ (fun v => hy v.2), u2_ne _ _ _ _ (by omega), u2_ne _ _ _ _ (by omega)]
            exact z3
        · rw [u2_ne _ _ _ _ (by omega), u2_ne _ _ _ _ (by omega), u2_same]
        · rw [u2_ne _ _ _ _ (by omega), u2_same]
        · rw [u2_same]
          rfl
      · rw [rK.2 13 (by decide), e13] at hc2
        exact absurd (Int32.le_refl _) hc2
    | succ d ih =>
      intro x K hx rK k14 k15 k13 oc k119
      refine vX12_findJoin_249 hS ⟨fun hc2 => ?_, fun _ => ?_⟩
      · rw [rK.2 13 (by decide), e13] at hc2
        exact absurd hc2 (nI_ge (by omega) (by omega))
      · rw [zx48, znIc (show 48 * c + x < 2147483648 by omega), nI_1]
        refine ⟨znIin (by omega) (by decide), ih (x + 1) _ (by omega) (rX_row (rX_row rK (by decide)) (by decide)) (fun i hi => by rw [u2_ne _ _ _ _ (by omega), u2_ne _ _ _ _ (by omega)]; exact k14 i hi) (fun k hk => by rw [u2_ne _ _ _ _ (by omega), u2_ne _ _ _ _ (by omega)]; exact k15 k hk) (by rw [← u2_row _ _ _ _ (by decide), ← u2_row _ _ _ _ (by decide)]; exact k13) ⟨fun y hy => ?_, fun y hy => ?_⟩ (fun x' hx' => ?_)⟩
        · rw [u2_ne _ _ _ _ (by omega), u2_ne _ _ _ _ (by omega), u2_ne _ _ _ _ (by omega), u2_ne _ _ _ _ (by omega)]
          exact oc.1 y hy
        · rw [u2_ne _ _ _ _ (by omega), u2_ne _ _ _ _ (by omega)]
          rw [u2_ne _ _ _ _ (by omega), u2_ne _ _ _ _ (by omega)]
          rw [u2_ne _ _ _ _ (by omega), u2_ne _ _ _ _ (by omega)]
          exact oc.2 y hy
        · rw [u2_ne _ _ _ _ (by omega)]
          by_cases z : x' = x
          · rw [z, u2_same]
          · rw [u2_ne _ _ _ _ (by omega)]
            exact k119 x' (by omega)
  have clearH : ∀ (d k : Nat) (K : zFI), k + d = nh → pX I2 K → (∀ i', i' < nt → K 114 i' = 0) → (∀ k', k' < k → K 115 k' = 0) → K 113 = J 113 → ZW G mX12_findJoin fX12_findJoin lX12_findJoin 223 [zo G 84, .int (nI c), .int (I2 84 50), .int (I2 84 51), .int a, .int s, .int (nI k), .null, .null, .null] [] S K L 0 0 Q := by
    intro d
    induction d with
    | zero =>
      intro k K hk pK k14 k15 k13
      have : nh = k := by omega
      subst this
      refine vX12_findJoin_223 hS ⟨fun _ => rows jn 0 K (by omega) pK.rx k14 k15 k13 ⟨fun y _ => ?_, fun y _ => ?_⟩ (fun x' hx' => absurd hx' (Nat.not_lt_zero _)), fun hc2 => ?_⟩
      · rw [pK.1 119 (by decide), pK.1 120 (by decide), inv119 119 (by omega), inv119 120 (by omega)]
        exact ⟨rfl, rfl⟩
      · rw [pK.1 121 (by decide), pK.1 122 (by decide), pK.1 123 (by decide), inv119 121 (by omega), inv119 122 (by omega), inv119 123 (by omega)]
        exact ⟨rfl, rfl, rfl⟩
      · rw [pK.2 43 (by decide) (by decide), x3] at hc2
        exact absurd (Int32.le_refl _) hc2
    | succ d ih =>
      intro k K hk pK k14 k15 k13
      refine vX12_findJoin_223 hS ⟨fun hc2 => ?_, fun _ => ?_⟩
      · rw [pK.2 43 (by decide) (by decide), x3] at hc2
        exact absurd hc2 (nI_ge (by omega) (by omega))
      · rw [znIc (show k < 2147483648 by omega), nI_1]
        refine ⟨znIin (by omega) (by decide), ih (k + 1) _ (by omega) (pX_row pK (by decide)) (fun i hi => by rw [u2_ne _ _ _ _ (by omega)]; exact k14 i hi) (fun k' hk' => ?_) (by rw [← u2_row _ _ _ _ (by decide)]; exact k13)⟩
        by_cases z : k' = k
        · rw [z, u2_same]
        · rw [u2_ne _ _ _ _ (fun v => z v.2)]
          exact k15 k' (by omega)
  have clearT : ∀ (d i : Nat) (K : zFI), i + d = nt → pX I2 K → (∀ i', i' < i → K 114 i' = 0) → K 113 = J 113 → ZW G mX12_findJoin fX12_findJoin lX12_findJoin 197 [zo G 84, .int (nI c), .int (I2 84 50), .int (I2 84 51), .int a, .int s, .int (nI i), .null, .null, .null] [] S K L 0 0 Q := by
    intro d
    induction d with
    | zero =>
      intro i K hi pK k14 k13
      have : nt = i := by omega
      subst this
      refine vX12_findJoin_197 hS ⟨fun _ => clearH nh 0 K (by omega) pK k14 (fun k' hk' => absurd hk' (Nat.not_lt_zero _)) k13, fun hc2 => ?_⟩
      rw [pK.2 42 (by decide) (by decide), x1] at hc2
      exact absurd (Int32.le_refl _) hc2
    | succ d ih =>
      intro i K hi pK k14 k13
      refine vX12_findJoin_197 hS ⟨fun hc2 => ?_, fun _ => ?_⟩
      · rw [pK.2 42 (by decide) (by decide), x1] at hc2
        exact absurd hc2 (nI_ge (by omega) (by omega))
      · rw [znIc (show i < 2147483648 by omega), nI_1]
        refine ⟨znIin (by omega) (by decide), ih (i + 1) _ (by omega) (pX_row pK (by decide)) (fun i' hi' => ?_) (by rw [← u2_row _ _ _ _ (by decide)]; exact k13)⟩
        by_cases z : i' = i
        · rw [z, u2_same]
        · rw [u2_ne _ _ _ _ (fun v => z v.2)]
          exact k14 i' (by omega)
  exact clearT nt 0 J (by omega) pJ (fun i' hi' => absurd hi' (Nat.not_lt_zero _)) rfl
