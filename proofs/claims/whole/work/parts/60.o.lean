/-! READS: the class's signs of units -/
def zUs (r i : Nat) : Int32 := if i < 5 then (zTxC.getD 1 []).getD (5 * r + i) 32 else 32
theorem c_unitSign {G : Gp} {Q : zPost} {S : zSh} {I : zFI} {L : zFL} {r i : Nat} (hS : zStd S) (hr : r < 12) (hi : i < 1000) (h : Q (some (.int (zUs r i))) S I L) : ZC G mX6_unitSign fX6_unitSign lX6_unitSign [.int (nI r), .int (nI i)] S I L 0 0 Q := by
  have e : nI r * 5 + nI i = nI (r * 5 + i) := by
    rw [show (5 : Int32) = nI 5 from rfl, pk_mul, nI_add]
  have l60 : zLn_ 1 = 60 := rfl
  refine ZC.of' (vs := [.int (nI r), .int (nI i), .null]) ?_ rfl (Nat.le_of_ble_eq_true rfl) rfl
  refine zr_iload_n dX6_unitSign_0 rfl rfl ?_
  refine zr_iconst (v := 5) dX6_unitSign_1 (by decide) ?_
  refine zr_imul dX6_unitSign_2 ?_
  refine zr_iload_n dX6_unitSign_3 rfl rfl ?_
  refine zr_iadd dX6_unitSign_4 ?_
  rw [e]
  refine zr_istore_n (vs' := [.int (nI r), .int (nI i), .int (nI (r * 5 + i))]) dX6_unitSign_5 rfl (Nat.le_of_ble_eq_true rfl) rfl ?_
  refine zr_iload_n dX6_unitSign_6 rfl rfl ?_
  have far : ¬ i < 5 → ZW G mX6_unitSign fX6_unitSign lX6_unitSign 37 [.int (nI r), .int (nI i), .int (nI (r * 5 + i))] [] S I L 0 0 Q := fun no => by
    refine zr_bipush (v := 32) dX6_unitSign_37 (by decide) ?_
    refine zr_ireturn dX6_unitSign_39 rfl rfl ?_
    unfold zUs at h
    rw [if_neg no] at h
    exact h
  refine zr_iflt (tgt := 37) dX6_unitSign_7 (by decide) (fun hb => absurd hb (nI_pos (by omega))) (fun _ => ?_)
  refine zr_iload_n dX6_unitSign_10 rfl rfl ?_
  refine zr_iconst (v := 5) dX6_unitSign_11 (by decide) ?_
  refine zr_icge (tgt := 37) dX6_unitSign_12 (by decide) (fun hb => far (fun y => absurd hb (nI_ge (b := 5) y (by omega)))) (fun hb => ?_)
  have hi5 : i < 5 := Classical.byContradiction (fun no => hb (show nI 5 ≤ nI i from nI_le (by omega) (by omega)))
  refine zr_iload_n dX6_unitSign_15 rfl rfl ?_
  refine zr_iflt (tgt := 37) dX6_unitSign_16 (by decide) (fun hb => absurd hb (nI_pos (by omega))) (fun _ => ?_)
  refine zr_iload_n dX6_unitSign_19 rfl rfl ?_
  refine zr_ldc1 dX6_unitSign_20 rfl ?_
  refine zr_callK (i := 1) (As := []) (rest := [.int (nI (r * 5 + i))]) (fr' := fJ0_length_8abf5) (lo' := lJ0_length_8abf5) (bc' := 0) (bs' := 0) (bcr := 0) (bsr := 0) dX6_unitSign_22 zs_X6_94 zi_J0_length_8abf5 rfl (by omega) rfl rfl (Nat.le_of_ble_eq_true rfl) (Nat.le_of_ble_eq_true rfl) (Nat.le_of_ble_eq_true rfl) (Nat.le_refl _) (Nat.le_refl _) ?_
  refine c_strlen (by omega) ?_
  show ZW G mX6_unitSign fX6_unitSign lX6_unitSign 25 [.int (nI r), .int (nI i), .int (nI (r * 5 + i))] [.int (nI (zLn_ 1)), .int (nI (r * 5 + i))] S I L 0 0 Q
  rw [l60]
  refine zr_icge (tgt := 37) dX6_unitSign_25 (by decide) (fun hb => absurd hb (nI_ge (b := 60) (by omega) (by omega))) (fun hb => ?_)
  refine zr_ldc1 dX6_unitSign_28 rfl ?_
  refine zr_iload_n dX6_unitSign_30 rfl rfl ?_
  refine zr_callK (i := 1) (As := [.int (nI (r * 5 + i))]) (rest := []) (fr' := fJ0_charAt_5068e) (lo' := lJ0_charAt_5068e) (bc' := 0) (bs' := 0) (bcr := 0) (bsr := 0) dX6_unitSign_31 zs_X6_98 zi_J0_charAt_5068e rfl (by omega) rfl rfl (Nat.le_of_ble_eq_true rfl) (Nat.le_of_ble_eq_true rfl) (Nat.le_of_ble_eq_true rfl) (Nat.le_refl _) (Nat.le_refl _) ?_
  refine c_charAt (by omega) (by rw [l60]; omega) ?_
  show ZW G mX6_unitSign fX6_unitSign lX6_unitSign 34 [.int (nI r), .int (nI i), .int (nI (r * 5 + i))] [.int (zCh 1 (r * 5 + i))] S I L 0 0 Q
  refine zr_goto (tgt := 39) dX6_unitSign_34 (by decide) ?_
  refine zr_ireturn dX6_unitSign_39 rfl rfl ?_
  have all : ∀ a : Fin 12, ∀ b : Fin 5, zCh 1 (a.1 * 5 + b.1) = zUs a.1 b.1 := by decide +kernel
  rw [all ⟨r, hr⟩ ⟨i, hi5⟩]
  exact h
/-- the sign wanted at place i -/
def zWa (a r i : Nat) : Int32 := if i < a then 88 else zUs r (i - a)
/-- where place i is looked for -/
def zPl (n i : Nat) (b : Int32) : Nat := if b = 0 then i else n - 1 - i
def zspl (sg : Nat → Int32) (n a r : Nat) (b : Int32) : Prop := a ≤ n ∧ zUs r (n - a) = 32 ∧ ∀ i, i < n → ¬ zWa a r i = 32 ∧ (sg (zPl n i b) = zWa a r i ∨ sg (zPl n i b) = 63)
theorem c_spells {G : Gp} {Q : zPost} {S : zSh} {I : zFI} {L : zFL} {m n a r : Nat} {b : Int32} (hS : zStd S) (hm : m < 200) (hn : I 22 m = nI n) (hn2 : n ≤ 6) (ha : a < 4) (hr : r < 12) (h : ∀ x : Int32, (x = 0 ∨ x = 1) → (x = 1 ↔ zspl (fun i => I 24 (6 * m + i)) n a r b) → Q (some (.int x)) S I L) : ZC G mX6_spells fX6_spells lX6_spells [zo G 19, .int (nI m), .int (nI a), .int (nI r), .int b] S I L 0 0 Q := by
  have hp : p_X11_pick I 22 200 (nI m) = nI n := by rw [pick_in hm (by decide), hn]
  have no : ¬ zspl (fun i => I 24 (6 * m + i)) n a r b → Q (some (.int 0)) S I L := fun q => h 0 (Or.inl rfl) ⟨fun w => absurd w (by decide), fun w => absurd w q⟩
  refine ZC.of' (vX6_spells_0 hS ?_) rfl (Nat.le_of_ble_eq_true rfl) rfl
  rw [hp]
  refine ⟨fun c => no (fun q => ?_), fun c => ?_⟩
  · exact absurd c (nI_nlt q.1 (by omega))
  · have han : a ≤ n := by
      rcases Nat.lt_or_ge n a with w | w
      · exact absurd (nI_lt w (by omega)) c
      · exact w
    rw [pk_sub han]
    have key : zUs r (n - a) = 32 → ∀ k i : Nat, i + k = n → (∀ j, j < i → ¬ zWa a r j = 32 ∧ (I 24 (6 * m + zPl n j b) = zWa a r j ∨ I 24 (6 * m + zPl n j b) = 63)) → ZW G mX6_spells fX6_spells lX6_spells 34 [zo G 19, .int (nI m), .int (nI a), .int (nI r), .int b, .int (nI n), .int (nI i), .null, .null] [] S I L 0 0 Q := by
      intro hb k
      induction k with
      | zero =>
        intro i hi h1
        have : i = n := by omega
        subst this
        exact vX6_spells_34 hS ⟨fun _ => h 1 (Or.inr rfl) ⟨fun _ => ⟨han, hb, h1⟩, fun _ => rfl⟩, fun hc => absurd (Int32.le_refl _) hc⟩
      | succ k ih =>
        intro i hi h1
        have good : ¬ zWa a r i = 32 → (I 24 (6 * m + zPl n i b) = zWa a r i ∨ I 24 (6 * m + zPl n i b) = 63) → ZW G mX6_spells fX6_spells lX6_spells 34 [zo G 19, .int (nI m), .int (nI a), .int (nI r), .int b, .int (nI n), .int (nI i + 1), .null, .null] [] S I L 0 0 Q := fun q1 q2 => by
          rw [nI_1]
          refine ih (i + 1) (by omega) (fun j hj => ?_)
          rcases (by omega : j < i ∨ j = i) with w | rfl
          · exact h1 j w
          · exact ⟨q1, q2⟩
        have bad : ¬ (¬ zWa a r i = 32 ∧ (I 24 (6 * m + zPl n i b) = zWa a r i ∨ I 24 (6 * m + zPl n i b) = 63)) → Q (some (.int 0)) S I L := fun q => no (fun w => q (w.2.2 i (by omega)))
        have p0 : b = 0 → p_X11_pick I 24 1200 (nI m * 6 + nI i) = I 24 (6 * m + zPl n i b) := fun q => by
          rw [show (6 : Int32) = nI 6 from rfl, pk_mul, nI_add, pick_in (by omega) (by decide), Nat.mul_comm]
          unfold zPl
          rw [if_pos q]
        have p1 : ¬ b = 0 → p_X11_pick I 24 1200 (nI m * 6 + (nI n - 1 - nI i)) = I 24 (6 * m + zPl n i b) := fun q => by
          rw [show (6 : Int32) = nI 6 from rfl, pk_mul, zx_m (by omega), pk_sub (by omega), nI_add, pick_in (by omega) (by decide), Nat.mul_comm]
          unfold zPl
          rw [if_neg q]
        have fan : ∀ (s : Int32), s = I 24 (6 * m + zPl n i b) → ((zWa a r i = 32 → Q (some (.int 0)) S I L) ∧ (¬ zWa a r i = 32 → ((s = zWa a r i → ZW G mX6_spells fX6_spells lX6_spells 34 [zo G 19, .int (nI m), .int (nI a), .int (nI r), .int b, .int (nI n), .int (nI i + 1), .null, .null] [] S I L 0 0 Q) ∧ (¬ s = zWa a r i → ((s = 63 → ZW G mX6_spells fX6_spells lX6_spells 34 [zo G 19, .int (nI m), .int (nI a), .int (nI r), .int b, .int (nI n), .int (nI i + 1), .null, .null] [] S I L 0 0 Q) ∧ (¬ s = 63 → Q (some (.int 0)) S I L)))))) := fun s hs => by
          subst hs
          refine ⟨fun q => bad (fun w => w.1 q), fun q1 => ⟨fun q2 => good q1 (Or.inl q2), fun q2 => ⟨fun q3 => good q1 (Or.inr q3), fun q3 => bad (fun w => ?_)⟩⟩⟩
          rcases w.2 with z | z
          · exact q2 z
          · exact q3 z
        refine vX6_spells_34 hS ⟨fun hc => absurd hc (nI_ge (by omega) (by omega)), fun _ => ⟨fun hc => ?_, fun hc => ?_⟩⟩
        · have hai : a ≤ i := by
            rcases Nat.lt_or_ge i a with w | w
            · exact absurd hc (nI_ge w (by omega))
            · exact w
          rw [pk_sub hai]
          have ew : zUs r (i - a) = zWa a r i := by
            unfold zWa
            rw [if_neg (by omega)]
          refine c_unitSign hS hr (by omega) ⟨_, rfl, rfl, ?_⟩
          rw [ew]
          exact ⟨fun q => fan _ (p0 q), fun q => fan _ (p1 q)⟩
        · have hai : i < a := by
            rcases Nat.lt_or_ge i a with w | w
            · exact w
            · exact absurd (nI_le w (by omega)) hc
          have ew : (88 : Int32) = zWa a r i := by
            unfold zWa
            rw [if_pos hai]
          rw [ew]
          exact ⟨fun q => fan _ (p0 q), fun q => fan _ (p1 q)⟩
    refine c_unitSign hS hr (by omega) ⟨_, rfl, rfl, fun q => key q n 0 (by omega) (fun j hj => absurd hj (Nat.not_lt_zero _)), fun q => no (fun w => q w.2.1)⟩
/-! the model's forms -/
def zSg (I J : zFI) : Prop := (∀ b, b ∉ ([84, 107] : List Nat) → J b = I b) ∧ J 77 0 = I 77 0 ∧ ∀ k, k ∉ ([39] : List Nat) → J 84 k = I 84 k
theorem zSg.refl (I : zFI) : zSg I I := ⟨fun _ _ => rfl, rfl, fun _ _ => rfl⟩
theorem zSg.trans {I J K : zFI} (h : zSg I J) (g : zSg J K) : zSg I K := ⟨fun b hb => (g.1 b hb).trans (h.1 b hb), g.2.1.trans h.2.1, fun k hk => (g.2.2 k hk).trans (h.2.2 k hk)⟩
theorem zSg.scr {I J : zFI} (h : zSg I J) : zScrd I J := ⟨fun b hb => h.1 b (fun q => hb (by
  simp only [List.mem_cons, List.mem_nil_iff, or_false] at q
  rcases q with q | q <;> rw [q] <;> decide)), h.2.1, fun k hk => h.2.2 k (fun q => absurd hk (by
  simp only [List.mem_cons, List.mem_nil_iff, or_false] at q
  rw [q]
  decide))⟩
def zFu (u : Nat) (le : Int32) : List Int32 := if le = 0 then List.replicate (u / 5) 86 ++ List.replicate (u % 5) 73 else if u = 4 then [73, 86] else if u = 9 then [73, 88] else List.replicate (u / 5) 86 ++ List.replicate (u % 5) 73
def zFo (k : Nat) (le : Int32) : List Int32 := List.replicate (k / 10) 88 ++ zFu (k % 10) le
def zRw (u : Nat) (le : Int32) : Nat := if le = 0 then u else if u = 4 then 10 else if u = 9 then 11 else u
def zhasF (I : zFI) (l : List Int32) : Prop := I 84 39 = nI l.length ∧ l.length ≤ 12 ∧ ∀ i, i < l.length → I 107 i = l.getD i 0
theorem m_adds {G : Gp} {Q : zPost} {S : zSh} {I : zFI} {L : zFL} {x : Int32} {k : Nat} {l : List Int32} (hS : zStd S) (hl : zhasF I l) (hk : l.length + k ≤ 12) (h : ∀ I', zSg I I' → zhasF I' (l ++ List.replicate k x) → Q none S I' L) : ZC G mX12_adds fX12_adds lX12_adds [zo G 84, .int x, .int (nI k)] S I L 0 0 Q := by
  have key : ∀ (d m : Nat) (J : zFI), m + d = k → zSg I J → zhasF J (l ++ List.replicate m x) → ZW G mX12_adds fX12_adds lX12_adds 2 [zo G 84, .int x, .int (nI k), .int (nI m)] [] S J L 0 0 Q := by
    intro d
    induction d with
    | zero =>
      intro m J hm j1 j2
      have : m = k := by omega
      subst this
      exact vX12_adds_2 hS ⟨fun _ => h J j1 j2, fun hc => absurd (Int32.le_refl _) hc⟩
    | succ d ih =>
      intro m J hm j1 j2
      obtain ⟨b1, b2, b3⟩ := j2
      have hlen : (l ++ List.replicate m x).length = l.length + m := by simp
      rw [hlen] at b1 b2 b3
      refine vX12_adds_2 hS ⟨fun hc => absurd hc (nI_ge (by omega) (by omega)), fun _ => ?_⟩
      rw [b1, nI_1, nI_1, znIc (by omega)]
      refine ⟨znIin (by omega) (by decide), ih (m + 1) _ (by omega) (j1.trans ⟨fun b hb => ?_, rfl, fun k hk => ?_⟩) ⟨?_, ?_, fun i hi => ?_⟩⟩
      · rw [← u2_row _ _ _ _ (fun q => hb (by rw [q]; decide)), ← u2_row _ _ _ _ (fun q => hb (by rw [q]; decide))]
      · rw [u2_ne _ _ _ _ (fun q => hk (by rw [q.2]; decide)), u2_ne _ _ _ _ (by omega)]
      · rw [u2_same]
        simp [Nat.add_assoc]
      · simp
        omega
      · have hi : i < l.length + (m + 1) := by simpa using hi
        rw [u2_ne _ _ _ _ (by omega)]
        by_cases c : i = l.length + m
        · subst c
          rw [u2_same]
          simp [List.getD_eq_getElem?_getD, List.getElem?_append]
        · rw [u2_ne _ _ _ _ (fun q => c q.2), b3 i (by omega)]
          simp only [List.getD_eq_getElem?_getD, List.getElem?_append, List.getElem?_replicate]
          by_cases d2 : i < l.length
          · rw [if_pos d2, if_pos d2]
          · rw [if_neg d2, if_neg d2, if_pos (by omega), if_pos (by omega)]
  refine ZC.of' (vX12_adds_0 hS (key k 0 I (by omega) (zSg.refl I) ?_)) rfl (Nat.le_of_ble_eq_true rfl) rfl
  rw [List.replicate_zero, List.append_nil]
  exact hl
theorem m_writes {G : Gp} {Q : zPost} {S : zSh} {I : zFI} {L : zFL} {le : Int32} {k : Nat} (hS : zStd S) (hk : k < 40) (h : ∀ I', zSg I I' → zhasF I' (zFo k le) → Q none S I' L) : ZC G mX12_writes fX12_writes lX12_writes [zo G 84, .int (nI k), .int le] S I L 0 0 Q := by
  have d1 : nI k / 10 = nI (k / 10) := pk_div (d := 10) (by omega) (by omega) (by omega)
  have d2 : nI k - nI (k / 10) * 10 = nI (k % 10) := by
    have := pk_rem (a := k) (d := 10) (by omega) (by omega) (by omega)
    rw [← this, d1.symm]
    rfl
  have d3 : nI (k % 10) / 5 = nI (k % 10 / 5) := pk_div (d := 5) (by omega) (by omega) (by omega)
  have d4 : nI (k % 10) - nI (k % 10 / 5) * 5 = nI (k % 10 % 5) := by
    have := pk_rem (a := k % 10) (d := 5) (by omega) (by omega) (by omega)
    rw [← this, d3.symm]
    rfl
  have z0 : zSg I (u2 I 84 39 0) := ⟨fun b hb => (u2_row _ _ _ _ (fun q => hb (by rw [q]; decide))).symm, rfl, fun k hk => u2_ne _ _ _ _ (fun q => hk (by rw [q.2]; decide))⟩
  refine ZC.of' (vX12_writes_0 hS ?_) rfl (Nat.le_of_ble_eq_true rfl) rfl
  rw [d1, d2, d3, d4]
  refine m_adds hS (l := []) ⟨rfl, by decide, fun i hi => absurd hi (Nat.not_lt_zero _)⟩ (by simp; omega) (fun I1 z1 f1 => ⟨rfl, rfl, ?_⟩)
  rw [List.nil_append] at f1
  have z1 := z0.trans z1
  have four : nI (k % 10) = 4 ↔ k % 10 = 4 := nI_eq (b := 4) (by omega) (by omega)
  have nine : nI (k % 10) = 9 ↔ k % 10 = 9 := nI_eq (b := 9) (by omega) (by omega)
  unfold zFo zFu at h
  have plain : (∀ I', zSg I I' → zhasF I' (List.replicate (k / 10) 88 ++ (List.replicate (k % 10 / 5) 86 ++ List.replicate (k % 10 % 5) 73)) → Q none S I' L) → ZC G mX12_adds fX12_adds lX12_adds [zo G 84, .int 86, .int (nI (k % 10 / 5))] S I1 L 0 0 (fun w S' I2 L2 => w = none ∧ S = S' ∧ ZC G mX12_adds fX12_adds lX12_adds [zo G 84, .int 73, .int (nI (k % 10 % 5))] S I2 L2 0 0 (fun w S' I3 L3 => w = none ∧ S = S' ∧ Q none S I3 L3)) := fun hh => by
    refine m_adds hS f1 (by simp; omega) (fun I2 z2 f2 => ⟨rfl, rfl, m_adds hS f2 (by simp; omega) (fun I3 z3 f3 => ⟨rfl, rfl, ?_⟩)⟩)
    rw [List.append_assoc] at f3
    exact hh I3 ((z1.trans z2).trans z3) f3
  have pair : ∀ y : Int32, (∀ I', zSg I I' → zhasF I' (List.replicate (k / 10) 88 ++ [73, y]) → Q none S I' L) → ZC G mX12_adds fX12_adds lX12_adds [zo G 84, .int 73, .int 1] S I1 L 0 0 (fun w S' I4 L4 => w = none ∧ S = S' ∧ ZC G mX12_adds fX12_adds lX12_adds [zo G 84, .int y, .int 1] S I4 L4 0 0 (fun w S' I5 L5 => w = none ∧ S = S' ∧ Q none S I5 L5)) := fun y hh => by
    refine m_adds hS f1 (k := 1) (by simp; omega) (fun I2 z2 f2 => ⟨rfl, rfl, m_adds hS f2 (k := 1) (by simp; omega) (fun I3 z3 f3 => ⟨rfl, rfl, ?_⟩)⟩)
    rw [List.append_assoc] at f3
    exact hh I3 ((z1.trans z2).trans z3) f3
  refine ⟨fun c => ?_, fun c => ⟨fun c4 => ?_, fun c4 => ⟨fun c9 => ?_, fun c9 => ?_⟩⟩⟩
  · rw [if_pos c] at h
    exact plain h
  · rw [if_neg c, if_pos (four.mp c4)] at h
    refine (pair 86 h).mono (fun v S' I' L' => ?_)
    rintro ⟨rfl, rfl, w⟩
    exact ⟨rfl, rfl, fun q => absurd c4 q, fun _ => w⟩
  · rw [if_neg c, if_neg (fun q => c4 (four.mpr q)), if_neg (fun q => c9 (nine.mpr q))] at h
    exact plain h
  · rw [if_neg c, if_neg (fun q => c4 (four.mpr q)), if_pos (nine.mp c9)] at h
    refine (pair 88 h).mono (fun v S' I' L' => ?_)
    rintro ⟨rfl, rfl, w⟩
    exact ⟨rfl, rfl, fun _ => w, fun q => absurd q c4⟩
