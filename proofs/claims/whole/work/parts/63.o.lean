theorem zisN_congr {fo tu : Int32} {sg sg' : Nat → Int32} {n k : Nat} (h : ∀ i, i < n → sg i = sg' i) : zisN fo tu sg n k ↔ zisN fo tu sg' n k := by
  have pl : ∀ (b : Int32) (i : Nat), i < n → zPl n i b < n := fun b i hi => by
    unfold zPl
    split <;> omega
  have m : ∀ (l : List Int32) (b : Int32), zmat sg n l b ↔ zmat sg' n l b := fun l b => by
    unfold zmat
    constructor
    · rintro ⟨h1, h2⟩
      exact ⟨h1, fun i hi => by rw [← h _ (pl b i hi)]; exact h2 i hi⟩
    · rintro ⟨h1, h2⟩
      exact ⟨h1, fun i hi => by rw [h _ (pl b i hi)]; exact h2 i hi⟩
  unfold zisN zway
  constructor
  · rintro ⟨w, h1, h2, h3, h4, h5⟩
    exact ⟨w, h1, h2, h3, h4, (m _ _).mp h5⟩
  · rintro ⟨w, h1, h2, h3, h4, h5⟩
    exact ⟨w, h1, h2, h3, h4, (m _ _).mpr h5⟩
theorem c_unitOf {r : Nat} (hr : r < 12) : p_X6_unitOf (nI r) = nI (zun r) := by
  have : ∀ r : Fin 12, p_X6_unitOf (nI r.1) = nI (zun r.1) := by decide +kernel
  exact this ⟨r, hr⟩
theorem c_isUsed {I : zFI} {r c : Nat} (hr : r < 12) : p_X6_isUsed I (nI r) c = 0 ↔ ¬ (if r < 10 then (r ≠ 4 ∧ r ≠ 9) ∨ ¬ I c 0 = 2 else ¬ I c 0 = 1) := by
  have e4 : nI r = 4 ↔ r = 4 := nI_eq (b := 4) (by omega) (by omega)
  have e9 : nI r = 9 ↔ r = 9 := nI_eq (b := 9) (by omega) (by omega)
  have e10 : nI r < 10 ↔ r < 10 := nI_ltI (b := 10) (by omega) (by omega)
  unfold p_X6_isUsed
  by_cases c10 : r < 10
  · rw [if_pos (e10.mpr c10), if_pos c10]
    by_cases c4 : r = 4
    · rw [if_pos (e4.mpr c4)]
      by_cases f : I c 0 = 2
      · rw [if_pos f]
        exact ⟨fun _ q => by rcases q with w | w; exact w.1 c4; exact w f, fun _ => rfl⟩
      · rw [if_neg f]
        exact ⟨fun q => absurd q (by decide), fun q => absurd (Or.inr f) q⟩
    · rw [if_neg (fun q => c4 (e4.mp q))]
      by_cases c9 : r = 9
      · rw [if_pos (e9.mpr c9)]
        by_cases f : I c 0 = 2
        · rw [if_pos f]
          exact ⟨fun _ q => by rcases q with w | w; exact w.2 c9; exact w f, fun _ => rfl⟩
        · rw [if_neg f]
          exact ⟨fun q => absurd q (by decide), fun q => absurd (Or.inr f) q⟩
      · rw [if_neg (fun q => c9 (e9.mp q))]
        exact ⟨fun q => absurd q (by decide), fun q => absurd (Or.inl ⟨c4, c9⟩) q⟩
  · rw [if_neg (fun q => c10 (e10.mp q)), if_neg c10]
    by_cases f : I c 0 = 1
    · rw [if_pos f]
      exact ⟨fun _ q => q f, fun _ => rfl⟩
    · rw [if_neg f]
      exact ⟨fun q => absurd q (by decide), fun q => absurd f q⟩
theorem c_numbersOn {G : Gp} {Q : zPost} {S : zSh} {I : zFI} {L : zFL} {r j jn mn : Nat} (hS : zStd S) (hr : zCu r) (hMrk : iMrk I jn mn) (hShn : iShn I mn) (hj : j < 48) (h : Q (some (.long (zNm I r (I 25 j)))) S I L) : ZC G mX6_numbersOn fX6_numbersOn lX6_numbersOn [zo G 19, .int (nI j), zo G r] S I L 0 0 Q := by
  obtain ⟨m1, m2, m3, m4⟩ := id hMrk
  obtain ⟨s1, s2⟩ := signs_eq hMrk hShn hj
  refine ZC.of' (vX6_numbersOn_0 hS hr ?_) rfl (Nat.le_of_ble_eq_true rfl) rfl
  rw [pick_in hj (by decide)]
  rcases shn_or hShn hj with e | ⟨m, k1, k2⟩
  · refine ⟨fun q => absurd (s1 e).1 q, fun _ => ?_⟩
    unfold zNm at h
    rw [zset_full (fun k => Or.inl e)] at h
    exact h
  · obtain ⟨b1, b2, b3, b4, b5, b6, b7, b8, b9, b10, b11, b12⟩ := m4 m k1
    obtain ⟨n, n1, n2, n3⟩ := zi_le (n := 6) b9 b10 (by decide)
    rw [(s2 m k1 k2).1]
    unfold zNm at h
    rw [k2, znIc (by omega)] at h
    refine ⟨fun c0 => ?_, fun c0 => ?_⟩
    · rw [k2]
      have neg1 : ¬ nI m = -1 := fun q => by
        rw [zeq, znI (by omega), show (-1 : Int32).toInt = -1 from rfl] at q
        omega
      rw [n2, znIc (by omega)] at h
      generalize hsg : (fun i => I 24 (6 * m + i)) = sg at h
      -- the set after rows (a, q)
      have fin : ∀ v : Int64, (∀ k, k < 64 → (zhas v k ↔ 0 < k ∧ ∃ a q, a < 4 ∧ q < 12 ∧ 10 * a + zun q = k ∧ zcond (I r 0) (I r 1) sg n a q)) → Q (some (.long v)) S I L := fun v hv => by
        have : v = zset (zpb (fun k => nI m = -1 ∨ nI n = 0 ∨ zisN (I r 0) (I r 1) sg n k)) 40 := by
          refine zhas_ext (fun k hk => ?_)
          rw [hv k hk, zset_has _ 40 (by omega) k hk, zpb_iff]
          constructor
          · rintro ⟨q1, a, q, qa, qq, q2, q3⟩
            have : k < 40 := by
              have : zun q ≤ 9 := by unfold zun; split; omega; split <;> omega
              omega
            exact ⟨this, q1, Or.inr (Or.inr ((zcond_isN this n1).mp ⟨a, q, qa, qq, q2, q3⟩))⟩
          · rintro ⟨q1, q2, q3⟩
            rcases q3 with q3 | q3 | q3
            · exact absurd q3 neg1
            · rw [n2] at c0
              exact absurd q3 c0
            · exact ⟨q2, (zcond_isN q1 n1).mpr q3⟩
        rw [this]
        exact h
      have hsp : ∀ {a q : Nat} {b : Int32} {Q' : zPost}, a < 4 → q < 12 → (∀ x : Int32, (x = 0 ∨ x = 1) → (x = 1 ↔ zspl sg n a q b) → Q' (some (.int x)) S I L) → ZC G mX6_spells fX6_spells lX6_spells [zo G 19, .int (nI m), .int (nI a), .int (nI q), .int b] S I L 0 0 Q' := fun ha hq hh => c_spells hS (by omega) n2 n1 ha hq (by rw [hsg]; exact hh)
      have row : ∀ (d a : Nat), a + d = 4 → ∀ v : Int64, (∀ k, k < 64 → (zhas v k ↔ 0 < k ∧ ∃ a' q, a' < a ∧ q < 12 ∧ 10 * a' + zun q = k ∧ zcond (I r 0) (I r 1) sg n a' q)) → ZW G mX6_numbersOn fX6_numbersOn lX6_numbersOn 27 [zo G 19, .int (nI j), zo G r, .int (nI m), .long v, .null, .int (nI a), .null, .null] [] S I L 0 0 Q := by
        intro d
        induction d with
        | zero =>
          intro a ha v hv
          have : a = 4 := by omega
          subst this
          exact vX6_numbersOn_27 hS hr ⟨fun _ => fin v hv, fun hc => absurd (Int32.le_refl _) hc⟩
        | succ d ih =>
          intro a ha v hv
          refine vX6_numbersOn_27 hS hr ⟨fun hc => absurd hc (show ¬ nI 4 ≤ nI a from nI_ge (by omega) (by omega)), fun _ => ?_⟩
          have inner : ∀ (d' q : Nat), q + d' = 12 → ∀ v : Int64, (∀ k, k < 64 → (zhas v k ↔ 0 < k ∧ ∃ a' q', (a' < a ∨ (a' = a ∧ q' < q)) ∧ q' < 12 ∧ 10 * a' + zun q' = k ∧ zcond (I r 0) (I r 1) sg n a' q')) → ZW G mX6_numbersOn fX6_numbersOn lX6_numbersOn 36 [zo G 19, .int (nI j), zo G r, .int (nI m), .long v, .null, .int (nI a), .int (nI q), .null] [] S I L 0 0 Q := by
            intro d'
            induction d' with
            | zero =>
              intro q hq v hv
              have : q = 12 := by omega
              subst this
              refine vX6_numbersOn_36 hS hr ⟨fun _ => ?_, fun hc => absurd (Int32.le_refl _) hc⟩
              rw [nI_1]
              refine ih (a + 1) (by omega) v (fun k hk => (hv k hk).trans ⟨?_, ?_⟩)
              · rintro ⟨w0, a', q', w1, w2, w3⟩
                exact ⟨w0, a', q', by omega, w2, w3⟩
              · rintro ⟨w0, a', q', w1, w2, w3⟩
                exact ⟨w0, a', q', by omega, w2, w3⟩
            | succ d' ih' =>
              intro q hq v hv
              have zu : zun q ≤ 9 := by unfold zun; split; omega; split <;> omega
              have eu : 10 * nI a + p_X6_unitOf (nI q) = nI (10 * a + zun q) := by
                rw [c_unitOf (by omega), show (10 : Int32) = nI 10 from rfl, pk_mul, nI_add]
              have skip : ¬ (0 < 10 * a + zun q ∧ zcond (I r 0) (I r 1) sg n a q) → ZW G mX6_numbersOn fX6_numbersOn lX6_numbersOn 36 [zo G 19, .int (nI j), zo G r, .int (nI m), .long v, .null, .int (nI a), .int (nI q + 1), .null] [] S I L 0 0 Q := fun no => by
                rw [nI_1]
                refine ih' (q + 1) (by omega) v (fun k hk => (hv k hk).trans ⟨?_, ?_⟩)
                · rintro ⟨w0, a', q', w1, w2, w3⟩
                  exact ⟨w0, a', q', by omega, w2, w3⟩
                · rintro ⟨w0, a', q', w1, w2, w3, w4⟩
                  refine ⟨w0, a', q', ?_, w2, w3, w4⟩
                  rcases w1 with w1 | ⟨w1, w5⟩
                  · exact Or.inl w1
                  · refine Or.inr ⟨w1, ?_⟩
                    rcases (by omega : q' < q ∨ q' = q) with z | z
                    · exact z
                    · subst z
                      subst w1
                      exact absurd ⟨by omega, w4⟩ no
              have put : 0 < 10 * a + zun q → zcond (I r 0) (I r 1) sg n a q → ZW G mX6_numbersOn fX6_numbersOn lX6_numbersOn 36 [zo G 19, .int (nI j), zo G r, .int (nI m), .long (v ||| ((1 : Int64) <<< ((nI (10 * a + zun q)).toInt64 &&& 63))), .null, .int (nI a), .int (nI q + 1), .null] [] S I L 0 0 Q := fun pos yes => by
                rw [nI_1]
                refine ih' (q + 1) (by omega) _ (fun k hk => (zhas_or (m := 10 * a + zun q) (by omega) hk).trans ⟨?_, ?_⟩)
                · rintro (w | w)
                  · obtain ⟨w0, a', q', w1, w2, w3⟩ := (hv k hk).mp w
                    exact ⟨w0, a', q', by omega, w2, w3⟩
                  · exact ⟨by omega, a, q, Or.inr ⟨rfl, by omega⟩, by omega, w.symm, yes⟩
                · rintro ⟨w0, a', q', w1, w2, w3, w4⟩
                  by_cases z : a' = a ∧ q' = q
                  · obtain ⟨rfl, rfl⟩ := z
                    exact Or.inr w3.symm
                  · refine Or.inl ((hv k hk).mpr ⟨w0, a', q', ?_, w2, w3, w4⟩)
                    rcases w1 with w1 | ⟨w1, w5⟩
                    · exact Or.inl w1
                    · refine Or.inr ⟨w1, ?_⟩
                      rcases (by omega : q' < q ∨ q' = q) with y | y
                      · exact y
                      · exact absurd ⟨w1, y⟩ z
              have posi : ¬ nI (10 * a + zun q) ≤ 0 → 0 < 10 * a + zun q := fun c => by
                rcases Nat.eq_zero_or_pos (10 * a + zun q) with z | z
                · rw [z] at c
                  exact absurd (by decide) c
                · exact z
              have usd : ¬ p_X6_isUsed I (nI q) r = 0 → (if q < 10 then (q ≠ 4 ∧ q ≠ 9) ∨ ¬ I r 0 = 2 else ¬ I r 0 = 1) := fun c1 => Classical.not_not.mp (fun z => c1 ((c_isUsed (by omega)).mpr z))
              refine vX6_numbersOn_36 hS hr ⟨fun hc => absurd hc (show ¬ nI 12 ≤ nI q from nI_ge (by omega) (by omega)), fun _ => ?_⟩
              rw [eu]
              refine ⟨fun c => skip (fun w => nI_nle w.1 (by omega) c), fun c => ⟨fun c1 => skip (fun w => (c_isUsed (by omega)).mp c1 w.2.1), fun c1 => hsp (by omega) (by omega) (fun x x1 x2 => ⟨_, rfl, rfl, fun c2 => ?_, fun c2 => ⟨fun c3 => skip (fun w => ?_), fun c3 => hsp (by omega) (by omega) (fun y y1 y2 => ⟨_, rfl, rfl, fun c4 => skip (fun w => ?_), fun c4 => ?_⟩)⟩⟩)⟩⟩
              · exact put (posi c) ⟨usd c1, Or.inl (x2.mp (x1.resolve_left c2))⟩
              · rcases w.2.2 with z | z
                · exact absurd (x2.mpr z) (by rw [c2]; decide)
                · exact z.1 c3
              · rcases w.2.2 with z | z
                · exact absurd (x2.mpr z) (by rw [c2]; decide)
                · exact absurd (y2.mpr z.2) (by rw [c4]; decide)
              · exact put (posi c) ⟨usd c1, Or.inr ⟨c3, y2.mp (y1.resolve_left c4)⟩⟩
          refine inner 12 0 (by omega) v (fun k hk => (hv k hk).trans ⟨?_, ?_⟩)
          · rintro ⟨w0, a', q', w1, w2, w3⟩
            exact ⟨w0, a', q', by omega, w2, w3⟩
          · rintro ⟨w0, a', q', w1, w2, w3⟩
            exact ⟨w0, a', q', by omega, w2, w3⟩
      refine row 4 0 (by omega) 0 (fun k hk => ⟨fun q => absurd q (zhas_0 k), ?_⟩)
      rintro ⟨w0, a', q', w1, w2, w3⟩
      omega
    · rw [zset_full (fun k => Or.inr (Or.inl c0))] at h
      exact h
theorem m_numbers {G : Gp} {Q : zPost} {S : zSh} {I : zFI} {L : zFL} {c r j jn mn : Nat} (hS : zStd S) (hNow : iNow I) (hMrk : iMrk I jn mn) (hShn : iShn I mn) (hj : j < 48) (hc : c ≤ 1) (hCu : iCu1 I r c) (h : ∀ I', zSg I I' → Q (some (.long (zNm I r (I 25 j)))) S I' L) : ZC G mX12_numbers fX12_numbers lX12_numbers [zo G 84, .int (nI c), .int (nI j)] S I L 0 0 Q := by
  obtain ⟨m1, m2, m3, m4⟩ := id hMrk
  refine ZC.of' (vX12_numbers_0 hS (m_mark25 hS hNow hMrk hShn hj ⟨_, rfl, rfl, ?_⟩)) rfl (Nat.le_of_ble_eq_true rfl) rfl
  unfold zNm at h
  generalize hp : (fun k => I 25 j = -1 ∨ I 22 (I 25 j).toNatClampNeg = 0 ∨ zisN (I r 0) (I r 1) (fun i => I 24 (6 * (I 25 j).toNatClampNeg + i)) (I 22 (I 25 j).toNatClampNeg).toNatClampNeg k) = p at h
  have key : ∀ (d k : Nat) (J : zFI), k + d = 40 → 0 < k → zSg I J → ZW G mX12_numbers fX12_numbers lX12_numbers 12 [zo G 84, .int (nI c), .int (nI j), .int (I 25 j), .long (zset (zpb p) k), .null, .int (nI k)] [] S J L 0 0 Q := by
    intro d
    induction d with
    | zero =>
      intro k J hk hk0 j1
      have : k = 40 := by omega
      subst this
      exact vX12_numbers_12 hS ⟨fun _ => h J j1, fun hc => absurd (Int32.le_refl _) hc⟩
    | succ d ih =>
      intro k J hk hk0 j1
      have yes : ∀ K, zSg I K → p k → ZW G mX12_numbers fX12_numbers lX12_numbers 12 [zo G 84, .int (nI c), .int (nI j), .int (I 25 j), .long (zset (zpb p) k ||| ((1 : Int64) <<< ((nI k).toInt64 &&& 63))), .null, .int (nI k + 1)] [] S K L 0 0 Q := fun K k1 hpk => by
        have := ih (k + 1) K (by omega) (by omega) k1
        rw [zset_succ, if_pos (zpb_iff.mpr ⟨hk0, hpk⟩), ← nI_1] at this
        exact this
      have no : ∀ K, zSg I K → ¬ p k → ZW G mX12_numbers fX12_numbers lX12_numbers 12 [zo G 84, .int (nI c), .int (nI j), .int (I 25 j), .long (zset (zpb p) k), .null, .int (nI k + 1)] [] S K L 0 0 Q := fun K k1 hpk => by
        have := ih (k + 1) K (by omega) (by omega) k1
        rw [zset_succ, if_neg (fun q => hpk (zpb_iff.mp q).2), ← nI_1] at this
        exact this
      have hpk : p k ↔ (I 25 j = -1 ∨ I 22 (I 25 j).toNatClampNeg = 0 ∨ zisN (I r 0) (I r 1) (fun i => I 24 (6 * (I 25 j).toNatClampNeg + i)) (I 22 (I 25 j).toNatClampNeg).toNatClampNeg k) := by
        rw [← hp]
      refine vX12_numbers_12 hS ⟨fun hc => absurd hc (show ¬ nI 40 ≤ nI k from nI_ge (by omega) (by omega)), fun _ => ⟨fun c1 => yes J j1 (hpk.mpr (Or.inl c1)), fun c1 => ?_⟩⟩
      rcases shn_or hShn hj with e | ⟨m, k1, k2⟩
      · exact absurd e c1
      · obtain ⟨b1, b2, b3, b4, b5, b6, b7, b8, b9, b10, b11, b12⟩ := m4 m k1
        obtain ⟨n, n1, n2, n3⟩ := zi_le (n := 6) b9 b10 (by decide)
        rw [k2] at c1 hpk yes no ⊢
        rw [znIc (by omega)] at hpk
        rw [znIc (by omega), j1.1 101 (by decide), b3]
        refine ⟨znIin (by omega) (by decide), fun c2 => yes J j1 (hpk.mpr (Or.inr (Or.inl c2))), fun c2 => ?_⟩
        refine m_isNumber hS hc (by omega) (n := n) (by rw [j1.1 101 (by decide), b3, n2]) n1 (by omega) (fun I1 x z1 x1 x2 => ⟨_, rfl, rfl, fun q => no _ (j1.trans z1) (fun w => ?_), fun q => yes _ (j1.trans z1) (hpk.mpr (Or.inr (Or.inr ?_)))⟩)
        all_goals rw [j1.1 105 (by decide), j1.1 103 (by decide), show I 105 (50 * c) = I r 0 from hCu.1 0 (by omega), hCu.1 1 (by omega), zisN_congr (sg' := fun i => I 24 (6 * m + i)) (fun i hi => (b12 i (by rw [n2]; exact nI_lt hi (by omega)) (by omega)).1)] at x2
        · rcases hpk.mp w with z | z | z
          · exact c1 z
          · exact c2 z
          · rw [n2, znIc (by omega)] at z
            rw [q] at x2
            exact absurd (x2.mpr z) (by decide)
        · rw [n2, znIc (by omega)]
          exact x2.mp (x1.resolve_left q)
  have := key 39 1 I (by omega) (by omega) (zSg.refl I)
  rw [zset_succ, if_neg (fun q => absurd (zpb_iff.mp q).1 (Nat.lt_irrefl _))] at this
  exact this
