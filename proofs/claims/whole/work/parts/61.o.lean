/-- the form against a mark's signs -/
def zmat (sg : Nat → Int32) (n : Nat) (l : List Int32) (b : Int32) : Prop := l.length = n ∧ ∀ i, i < n → sg (zPl n i b) = 63 ∨ sg (zPl n i b) = l.getD i 0
theorem m_isForm {G : Gp} {Q : zPost} {S : zSh} {I : zFI} {L : zFL} {m n : Nat} {b : Int32} {l : List Int32} (hS : zStd S) (hl : zhasF I l) (hm : m < 200) (hn : I 101 m = nI n) (hn2 : n ≤ 6) (h : ∀ x : Int32, (x = 0 ∨ x = 1) → (x = 1 ↔ zmat (fun i => I 103 (6 * m + i)) n l b) → Q (some (.int x)) S I L) : ZC G mX12_isForm fX12_isForm lX12_isForm [zo G 84, .int (nI m), .int b] S I L 0 0 Q := by
  obtain ⟨l1, l2, l3⟩ := hl
  have no : ¬ zmat (fun i => I 103 (6 * m + i)) n l b → Q (some (.int 0)) S I L := fun q => h 0 (Or.inl rfl) ⟨fun w => absurd w (by decide), fun w => absurd w q⟩
  refine ZC.of' (vX12_isForm_0 hS ?_) rfl (Nat.le_of_ble_eq_true rfl) rfl
  rw [znIc (by omega), hn, l1]
  refine ⟨znIin hm (by decide), fun c => ?_, fun c => no (fun q => c (by rw [q.1]))⟩
  have hln : l.length = n := (nI_eq (by omega) (by omega)).mp c
  have key : ∀ k i : Nat, i + k = n → (∀ j, j < i → I 103 (6 * m + zPl n j b) = 63 ∨ I 103 (6 * m + zPl n j b) = l.getD j 0) → ZW G mX12_isForm fX12_isForm lX12_isForm 17 [zo G 84, .int (nI m), .int b, .int (nI i), .null] [] S I L 0 0 Q := by
    intro k
    induction k with
    | zero =>
      intro i hi h1
      have : i = n := by omega
      subst this
      refine vX12_isForm_17 hS ⟨fun _ => h 1 (Or.inr rfl) ⟨fun _ => ⟨hln, h1⟩, fun _ => rfl⟩, fun hc => ?_⟩
      rw [l1, hln] at hc
      exact absurd (Int32.le_refl _) hc
    | succ k ih =>
      intro i hi h1
      have good : (I 103 (6 * m + zPl n i b) = 63 ∨ I 103 (6 * m + zPl n i b) = l.getD i 0) → ZW G mX12_isForm fX12_isForm lX12_isForm 17 [zo G 84, .int (nI m), .int b, .int (nI i + 1), .null] [] S I L 0 0 Q := fun q => by
        rw [nI_1]
        refine ih (i + 1) (by omega) (fun j hj => ?_)
        rcases (by omega : j < i ∨ j = i) with w | rfl
        · exact h1 j w
        · exact q
      have bad : ¬ (I 103 (6 * m + zPl n i b) = 63 ∨ I 103 (6 * m + zPl n i b) = l.getD i 0) → Q (some (.int 0)) S I L := fun q => no (fun w => q (w.2 i (by omega)))
      have p0 : b = 0 → (6 * nI m + nI i : Int32) = nI (6 * m + zPl n i b) := fun q => by
        rw [show (6 : Int32) = nI 6 from rfl, pk_mul, nI_add]
        unfold zPl
        rw [if_pos q]
      have p1 : ¬ b = 0 → (6 * nI m + (nI n - 1 - nI i) : Int32) = nI (6 * m + zPl n i b) := fun q => by
        rw [show (6 : Int32) = nI 6 from rfl, pk_mul, zx_m (by omega), pk_sub (by omega), nI_add]
        unfold zPl
        rw [if_neg q]
      have hpl : zPl n i b < 6 := by
        unfold zPl
        split <;> omega
      have fan : ∀ x : Int32, x = nI (6 * m + zPl n i b) → vp_in x 1200 ∧ ((I 103 x.toNatClampNeg = 63 → ZW G mX12_isForm fX12_isForm lX12_isForm 17 [zo G 84, .int (nI m), .int b, .int (nI i + 1), .null] [] S I L 0 0 Q) ∧ (¬ I 103 x.toNatClampNeg = 63 → vp_in (nI i) 12 ∧ ((I 103 x.toNatClampNeg = I 107 (nI i).toNatClampNeg → ZW G mX12_isForm fX12_isForm lX12_isForm 17 [zo G 84, .int (nI m), .int b, .int (nI i + 1), .null] [] S I L 0 0 Q) ∧ (¬ I 103 x.toNatClampNeg = I 107 (nI i).toNatClampNeg → Q (some (.int 0)) S I L)))) := fun x hx => by
        subst hx
        rw [znIc (by omega), znIc (by omega), l3 i (by omega)]
        refine ⟨znIin (by omega) (by decide), fun q => good (Or.inl q), fun q => ⟨znIin (by omega) (by decide), fun w => good (Or.inr w), fun w => bad (fun z => ?_)⟩⟩
        rcases z with z | z
        · exact q z
        · exact w z
      refine vX12_isForm_17 hS ⟨fun hc => ?_, fun _ => ?_⟩
      · rw [l1, hln] at hc
        exact absurd hc (nI_ge (by omega) (by omega))
      · rw [l1, hln]
        exact ⟨fun q => fan _ (p0 q), fun q => fan _ (p1 q)⟩
  exact key n 0 (by omega) (fun j hj => absurd hj (Nat.not_lt_zero _))
/-- the number k is written with these signs, by the four ways -/
def zway (fo tu : Int32) (sg : Nat → Int32) (n k : Nat) (w : Nat) : Prop :=
  ¬ (w % 2 = 0 ∧ fo = 2) ∧ ¬ (w % 2 = 1 ∧ fo = 1) ∧ ¬ (2 ≤ w ∧ tu = 0) ∧ zmat sg n (zFo k (if w % 2 = 0 then 0 else 1)) (if 2 ≤ w then 1 else 0)
def zisN (fo tu : Int32) (sg : Nat → Int32) (n k : Nat) : Prop := ∃ w, w < 4 ∧ zway fo tu sg n k w
theorem m_isNumber {G : Gp} {Q : zPost} {S : zSh} {I : zFI} {L : zFL} {c m n k : Nat} (hS : zStd S) (hc : c ≤ 1) (hm : m < 200) (hn : I 101 m = nI n) (hn2 : n ≤ 6) (hk : k < 40) (h : ∀ (I' : zFI) (x : Int32), zSg I I' → (x = 0 ∨ x = 1) → (x = 1 ↔ zisN (I 105 (50 * c)) (I 105 (50 * c + 1)) (fun i => I 103 (6 * m + i)) n k) → Q (some (.int x)) S I' L) : ZC G mX12_isNumber fX12_isNumber lX12_isNumber [zo G 84, .int (nI c), .int (nI m), .int (nI k)] S I L 0 0 Q := by
  have x0 : (50 * nI c : Int32) = nI (50 * c) := by rw [show (50 : Int32) = nI 50 from rfl, pk_mul]
  have x1 : (50 * nI c + 1 : Int32) = nI (50 * c + 1) := zx50 c 1
  have i0 : vp_in (nI (50 * c)) 150 := znIin (by omega) (by decide)
  have i1 : vp_in (nI (50 * c + 1)) 150 := znIin (by omega) (by decide)
  -- one way tried
  have tryit : ∀ (J : zFI) (le b : Int32) (w : Nat), zSg I J → le = (if w % 2 = 0 then 0 else 1) → b = (if 2 ≤ w then 1 else 0) → w < 4 → ¬ (w % 2 = 0 ∧ I 105 (50 * c) = 2) → ¬ (w % 2 = 1 ∧ I 105 (50 * c) = 1) → ¬ (2 ≤ w ∧ I 105 (50 * c + 1) = 0) → (∀ J', zSg I J' → ¬ zway (I 105 (50 * c)) (I 105 (50 * c + 1)) (fun i => I 103 (6 * m + i)) n k w → ZW G mX12_isNumber fX12_isNumber lX12_isNumber 3 [zo G 84, .int (nI c), .int (nI m), .int (nI k), .int (nI w + 1), .null, .null] [] S J' L 0 0 Q) →
      ZC G mX12_writes fX12_writes lX12_writes [zo G 84, .int (nI k), .int le] S J L 0 0 (fun v S' I1 L1 => v = none ∧ S = S' ∧ ZC G mX12_isForm fX12_isForm lX12_isForm [zo G 84, .int (nI m), .int b] S I1 L1 0 0 (fun v S' I2 L2 => ∃ r2 : Int32, v = some (.int r2) ∧ S = S' ∧ ((r2 = 0 → ZW G mX12_isNumber fX12_isNumber lX12_isNumber 3 [zo G 84, .int (nI c), .int (nI m), .int (nI k), .int (nI w + 1), .null, .null] [] S I2 L2 0 0 Q) ∧ (¬ r2 = 0 → Q (some (.int 1)) S I2 L2)))) := fun J le b w j1 e1 e2 hw g1 g2 g3 nx => by
    refine m_writes hS hk (fun I1 z1 f1 => ⟨rfl, rfl, m_isForm hS f1 hm (by rw [z1.1 101 (by decide), j1.1 101 (by decide)]; exact hn) hn2 (fun x o1 o2 => ⟨_, rfl, rfl, fun q => nx _ (j1.trans z1) (fun q2 => ?_), fun q => h _ 1 (j1.trans z1) (Or.inr rfl) ⟨fun _ => ⟨w, hw, g1, g2, g3, ?_⟩, fun _ => rfl⟩⟩)⟩)
    · rw [q, z1.1 103 (by decide), j1.1 103 (by decide), e1, e2] at o2
      exact absurd (o2.mpr q2.2.2.2) (by decide)
    · have := o2.mp (o1.resolve_left q)
      rw [z1.1 103 (by decide), j1.1 103 (by decide), e1, e2] at this
      exact this
  have r105 : ∀ J, zSg I J → J 105 = I 105 := fun J j => j.1 105 (by decide)
  have w4 : ∀ J, zSg I J → (∀ w, w < 4 → ¬ zway (I 105 (50 * c)) (I 105 (50 * c + 1)) (fun i => I 103 (6 * m + i)) n k w) → ZW G mX12_isNumber fX12_isNumber lX12_isNumber 3 [zo G 84, .int (nI c), .int (nI m), .int (nI k), .int 4, .null, .null] [] S J L 0 0 Q := fun J j hno => by
    refine vX12_isNumber_3 hS ⟨fun _ => h J 0 j (Or.inl rfl) ⟨fun q => absurd q (by decide), fun q => ?_⟩, fun q => absurd (by decide) q⟩
    obtain ⟨w, w1, w2⟩ := q
    exact absurd w2 (hno w w1)
  have w3 : ∀ J, zSg I J → (∀ w, w < 3 → ¬ zway (I 105 (50 * c)) (I 105 (50 * c + 1)) (fun i => I 103 (6 * m + i)) n k w) → ZW G mX12_isNumber fX12_isNumber lX12_isNumber 3 [zo G 84, .int (nI c), .int (nI m), .int (nI k), .int 3, .null, .null] [] S J L 0 0 Q := fun J j hno => by
    have nx : ∀ J', zSg I J' → ¬ zway (I 105 (50 * c)) (I 105 (50 * c + 1)) (fun i => I 103 (6 * m + i)) n k 3 → ZW G mX12_isNumber fX12_isNumber lX12_isNumber 3 [zo G 84, .int (nI c), .int (nI m), .int (nI k), .int (nI 3 + 1), .null, .null] [] S J' L 0 0 Q := fun J' j' q => w4 J' j' (fun w hw => by
      rcases (by omega : w < 3 ∨ w = 3) with z | rfl
      · exact hno w z
      · exact q)
    refine vX12_isNumber_3 hS ⟨fun q => absurd q (by decide), fun _ => ⟨fun q => absurd (by decide) q, fun _ => ⟨fun q => absurd q (by decide), fun _ => ⟨fun q => absurd q (by decide), fun _ => ?_⟩⟩⟩⟩
    rw [x1, x0, r105 J j, znIc (by omega), znIc (by omega)]
    refine ⟨i1, fun q => nx J j (fun z => z.2.2.1 ⟨by omega, q⟩), fun q => ⟨i0, fun z => absurd z (by decide), fun _ => ⟨fun q2 => tryit J 1 1 3 j rfl rfl (by omega) (fun z => absurd z.1 (by decide)) (fun z => q2 z.2) (fun z => q z.2) nx, fun q2 => nx J j (fun z => z.2.1 ⟨by omega, q2⟩)⟩⟩⟩
  have w2 : ∀ J, zSg I J → (∀ w, w < 2 → ¬ zway (I 105 (50 * c)) (I 105 (50 * c + 1)) (fun i => I 103 (6 * m + i)) n k w) → ZW G mX12_isNumber fX12_isNumber lX12_isNumber 3 [zo G 84, .int (nI c), .int (nI m), .int (nI k), .int 2, .null, .null] [] S J L 0 0 Q := fun J j hno => by
    have nx : ∀ J', zSg I J' → ¬ zway (I 105 (50 * c)) (I 105 (50 * c + 1)) (fun i => I 103 (6 * m + i)) n k 2 → ZW G mX12_isNumber fX12_isNumber lX12_isNumber 3 [zo G 84, .int (nI c), .int (nI m), .int (nI k), .int (nI 2 + 1), .null, .null] [] S J' L 0 0 Q := fun J' j' q => w3 J' j' (fun w hw => by
      rcases (by omega : w < 2 ∨ w = 2) with z | rfl
      · exact hno w z
      · exact q)
    refine vX12_isNumber_3 hS ⟨fun q => absurd q (by decide), fun _ => ⟨fun _ => ⟨fun q => absurd q (by decide), fun _ => ⟨fun q => absurd q (by decide), fun _ => ?_⟩⟩, fun q => absurd q (by decide)⟩⟩
    rw [x1, x0, r105 J j, znIc (by omega), znIc (by omega)]
    refine ⟨i1, fun q => nx J j (fun z => z.2.2.1 ⟨by omega, q⟩), fun q => ⟨i0, fun _ => ⟨fun q2 => tryit J 0 1 2 j rfl rfl (by omega) (fun z => q2 z.2) (fun z => absurd z.1 (by decide)) (fun z => q z.2) nx, fun q2 => nx J j (fun z => z.1 ⟨by omega, q2⟩)⟩, fun z => absurd rfl z⟩⟩
  have w1 : ∀ J, zSg I J → (∀ w, w < 1 → ¬ zway (I 105 (50 * c)) (I 105 (50 * c + 1)) (fun i => I 103 (6 * m + i)) n k w) → ZW G mX12_isNumber fX12_isNumber lX12_isNumber 3 [zo G 84, .int (nI c), .int (nI m), .int (nI k), .int 1, .null, .null] [] S J L 0 0 Q := fun J j hno => by
    have nx : ∀ J', zSg I J' → ¬ zway (I 105 (50 * c)) (I 105 (50 * c + 1)) (fun i => I 103 (6 * m + i)) n k 1 → ZW G mX12_isNumber fX12_isNumber lX12_isNumber 3 [zo G 84, .int (nI c), .int (nI m), .int (nI k), .int (nI 1 + 1), .null, .null] [] S J' L 0 0 Q := fun J' j' q => w2 J' j' (fun w hw => by
      rcases (by omega : w < 1 ∨ w = 1) with z | rfl
      · exact hno w z
      · exact q)
    refine vX12_isNumber_3 hS ⟨fun q => absurd q (by decide), fun _ => ⟨fun q => absurd (by decide) q, fun _ => ⟨fun _ => ⟨fun _ => ?_, fun q => absurd rfl q⟩, fun q => absurd (by decide) q⟩⟩⟩
    rw [x0, r105 J j, znIc (by omega)]
    refine ⟨i0, fun z => absurd z (by decide), fun _ => ⟨fun q2 => tryit J 1 0 1 j rfl rfl (by omega) (fun z => absurd z.1 (by decide)) (fun z => q2 z.2) (fun z => absurd z.1 (by decide)) nx, fun q2 => nx J j (fun z => z.2.1 ⟨by omega, q2⟩)⟩⟩
  have w0 : ZW G mX12_isNumber fX12_isNumber lX12_isNumber 3 [zo G 84, .int (nI c), .int (nI m), .int (nI k), .int 0, .null, .null] [] S I L 0 0 Q := by
    have nx : ∀ J', zSg I J' → ¬ zway (I 105 (50 * c)) (I 105 (50 * c + 1)) (fun i => I 103 (6 * m + i)) n k 0 → ZW G mX12_isNumber fX12_isNumber lX12_isNumber 3 [zo G 84, .int (nI c), .int (nI m), .int (nI k), .int (nI 0 + 1), .null, .null] [] S J' L 0 0 Q := fun J' j' q => w1 J' j' (fun w hw => by
      rcases (by omega : w < 0 ∨ w = 0) with z | rfl
      · exact absurd z (Nat.not_lt_zero _)
      · exact q)
    refine vX12_isNumber_3 hS ⟨fun q => absurd q (by decide), fun _ => ⟨fun _ => ⟨fun _ => ⟨fun _ => ?_, fun q => absurd rfl q⟩, fun q => absurd (by decide) q⟩, fun q => absurd q (by decide)⟩⟩
    rw [x0, znIc (by omega)]
    refine ⟨i0, fun _ => ⟨fun q2 => tryit I 0 0 0 (zSg.refl I) rfl rfl (by omega) (fun z => q2 z.2) (fun z => absurd z.1 (by decide)) (fun z => absurd z.1 (by decide)) nx, fun q2 => nx I (zSg.refl I) (fun z => z.1 ⟨by omega, q2⟩)⟩, fun z => absurd rfl z⟩
  exact ZC.of' (vX12_isNumber_0 hS w0) rfl (Nat.le_of_ble_eq_true rfl) rfl
