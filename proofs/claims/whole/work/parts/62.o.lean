/-! sets of numbers, bit by bit -/
def zbt (k : Nat) : Int64 := (1 : Int64) <<< ((nI k).toInt64 &&& 63)
def zhas (s : Int64) (k : Nat) : Prop := s.toBitVec.getLsbD k = true
theorem zhas_0 (k : Nat) : ¬ zhas 0 k := by
  unfold zhas
  show ¬ (0#64).getLsbD k = true
  simp
theorem zbt_all : ∀ k j : Fin 64, (zbt k.1).toBitVec.getLsbD j.1 = decide (j.1 = k.1) := by decide +kernel
theorem zhas_or {s : Int64} {m k : Nat} (hm : m < 64) (hk : k < 64) : zhas (s ||| zbt m) k ↔ zhas s k ∨ k = m := by
  unfold zhas
  rw [Int64.toBitVec_or, BitVec.getLsbD_or, zbt_all ⟨m, hm⟩ ⟨k, hk⟩]
  simp
theorem zhas_ext {a b : Int64} (h : ∀ k, k < 64 → (zhas a k ↔ zhas b k)) : a = b := by
  have : a.toBitVec = b.toBitVec := by
    refine BitVec.eq_of_getLsbD_eq (fun i hi => ?_)
    have := h i hi
    unfold zhas at this
    exact Bool.eq_iff_iff.mpr this
  exact Int64.toBitVec_inj.mp this
def zset (p : Nat → Bool) : Nat → Int64
  | 0 => 0
  | m + 1 => if p m = true then zset p m ||| zbt m else zset p m
theorem zset_succ (p : Nat → Bool) (m : Nat) : zset p (m + 1) = if p m = true then zset p m ||| zbt m else zset p m := rfl
theorem zset_has (p : Nat → Bool) : ∀ m, m ≤ 64 → ∀ k, k < 64 → (zhas (zset p m) k ↔ k < m ∧ p k = true) := by
  intro m
  induction m with
  | zero => intro _ k _; exact ⟨fun q => absurd q (zhas_0 k), fun q => absurd q.1 (Nat.not_lt_zero _)⟩
  | succ m ih =>
    intro hm k hk
    rw [zset_succ]
    by_cases c : p m = true
    · rw [if_pos c, zhas_or (by omega) hk, ih (by omega) k hk]
      constructor
      · rintro (q | q)
        · exact ⟨by omega, q.2⟩
        · subst q
          exact ⟨by omega, c⟩
      · rintro ⟨q1, q2⟩
        rcases (by omega : k < m ∨ k = m) with w | w
        · exact Or.inl ⟨w, q2⟩
        · exact Or.inr w
    · rw [if_neg c, ih (by omega) k hk]
      constructor
      · rintro ⟨q1, q2⟩
        exact ⟨by omega, q2⟩
      · rintro ⟨q1, q2⟩
        refine ⟨?_, q2⟩
        rcases (by omega : k < m ∨ k = m) with w | w
        · exact w
        · subst w
          exact absurd q2 c
noncomputable def zpb (p : Nat → Prop) (k : Nat) : Bool := @decide (0 < k ∧ p k) (Classical.propDecidable _)
theorem zpb_iff {p : Nat → Prop} {k : Nat} : zpb p k = true ↔ 0 < k ∧ p k := by
  unfold zpb
  exact @decide_eq_true_iff _ (Classical.propDecidable _)
/-- READS as a set: of a joint whose mark is x -/
noncomputable def zNm (I : zFI) (r : Nat) (x : Int32) : Int64 :=
  zset (zpb (fun k => x = -1 ∨ I 22 x.toNatClampNeg = 0 ∨ zisN (I r 0) (I r 1) (fun i => I 24 (6 * x.toNatClampNeg + i)) (I 22 x.toNatClampNeg).toNatClampNeg k)) 40
theorem zset_full {p : Nat → Prop} (h : ∀ k, p k) : zset (zpb p) 40 = 1099511627774 := by
  refine zhas_ext (fun k hk => ?_)
  rw [zset_has _ 40 (by omega) k hk, zpb_iff]
  have : ∀ k : Fin 64, ((1099511627774 : Int64).toBitVec.getLsbD k.1 = true ↔ k.1 < 40 ∧ 0 < k.1) := by decide +kernel
  have := this ⟨k, hk⟩
  unfold zhas
  rw [this]
  exact ⟨fun q => ⟨q.1, q.2.1⟩, fun q => ⟨q.1, q.2, h k⟩⟩
theorem zFo_ok : ∀ k : Fin 40, ∀ b : Fin 2, k.1 / 10 ≤ (zFo k.1 (nI b.1)).length ∧ (zFo k.1 (nI b.1)).length - k.1 / 10 < 6 ∧ zUs (zRw (k.1 % 10) (nI b.1)) ((zFo k.1 (nI b.1)).length - k.1 / 10) = 32 ∧ ∀ i : Fin 8, i.1 < (zFo k.1 (nI b.1)).length → (zFo k.1 (nI b.1)).getD i.1 0 = zWa (k.1 / 10) (zRw (k.1 % 10) (nI b.1)) i.1 ∧ ¬ zWa (k.1 / 10) (zRw (k.1 % 10) (nI b.1)) i.1 = 32 := by decide +kernel
theorem zmat_spl {sg : Nat → Int32} {n k : Nat} {b : Int32} (hk : k < 40) (hn : n ≤ 6) (le : Nat) (hle : le < 2) : zmat sg n (zFo k (nI le)) b ↔ zspl sg n (k / 10) (zRw (k % 10) (nI le)) b := by
  obtain ⟨f1, f2, f3, f4⟩ := zFo_ok ⟨k, hk⟩ ⟨le, hle⟩
  have f1 : k / 10 ≤ (zFo k (nI le)).length := f1
  have f2 : (zFo k (nI le)).length - k / 10 < 6 := f2
  have ha : k / 10 ≤ 3 := by omega
  have f3 : zUs (zRw (k % 10) (nI le)) ((zFo k (nI le)).length - k / 10) = 32 := f3
  have f4 : ∀ i : Fin 8, i.1 < (zFo k (nI le)).length → (zFo k (nI le)).getD i.1 0 = zWa (k / 10) (zRw (k % 10) (nI le)) i.1 ∧ ¬ zWa (k / 10) (zRw (k % 10) (nI le)) i.1 = 32 := f4
  generalize zFo k (nI le) = l at *
  generalize zRw (k % 10) (nI le) = r at *
  generalize k / 10 = a at *
  have f4 : ∀ i, i < l.length → l.getD i 0 = zWa a r i ∧ ¬ zWa a r i = 32 := fun i hi => f4 ⟨i, by omega⟩ hi
  unfold zmat zspl
  constructor
  · rintro ⟨h1, h2⟩
    refine ⟨by omega, by rw [← h1]; exact f3, fun i hi => ?_⟩
    obtain ⟨g1, g2⟩ := f4 i (by omega)
    have := h2 i hi
    rw [g1] at this
    exact ⟨g2, this.symm⟩
  · rintro ⟨h1, h2, h3⟩
    have hl : l.length = n := by
      rcases Nat.lt_trichotomy l.length n with q | q | q
      · have := (h3 l.length q).1
        unfold zWa at this
        rw [if_neg (by omega), f3] at this
        exact absurd rfl this
      · exact q
      · have := (f4 n q).2
        unfold zWa at this
        rw [if_neg (by omega), h2] at this
        exact absurd rfl this
    refine ⟨hl, fun i hi => ?_⟩
    obtain ⟨g1, g2⟩ := f4 i (by omega)
    rw [g1]
    exact (h3 i hi).2.symm
/-- the class's rows against the model's ways -/
def zcond (fo tu : Int32) (sg : Nat → Int32) (n a r : Nat) : Prop := (if r < 10 then (r ≠ 4 ∧ r ≠ 9) ∨ ¬ fo = 2 else ¬ fo = 1) ∧ (zspl sg n a r 0 ∨ (¬ tu = 0 ∧ zspl sg n a r 1))
def zun (r : Nat) : Nat := if r < 10 then r else if r = 10 then 4 else 9
theorem zcond_isN {fo tu : Int32} {sg : Nat → Int32} {n k : Nat} (hk : k < 40) (hn : n ≤ 6) : (∃ a r, a < 4 ∧ r < 12 ∧ 10 * a + zun r = k ∧ zcond fo tu sg n a r) ↔ zisN fo tu sg n k := by
  have e0 := fun b => zmat_spl (sg := sg) (b := b) hk hn 0 (by omega)
  have e1 := fun b => zmat_spl (sg := sg) (b := b) hk hn 1 (by omega)
  have r0 : zRw (k % 10) (nI 0) = k % 10 := by unfold zRw; rw [if_pos (show nI 0 = 0 from rfl)]
  have ne1 : ¬ nI 1 = 0 := by decide
  have r1 : zRw (k % 10) (nI 1) = if k % 10 = 4 then 10 else if k % 10 = 9 then 11 else k % 10 := by unfold zRw; rw [if_neg ne1]
  rw [r0] at e0
  rw [r1] at e1
  have way0 : ∀ (b : Int32) (w : Nat), w < 4 → w % 2 = 0 → b = (if 2 ≤ w then 1 else 0) → ¬ fo = 2 → ¬ (2 ≤ w ∧ tu = 0) → zspl sg n (k / 10) (k % 10) b → zisN fo tu sg n k := fun b w h1 h2 h3 h4 h5 h6 => by
    refine ⟨w, h1, fun q => h4 q.2, fun q => by omega, h5, ?_⟩
    rw [if_pos h2, ← h3]
    exact (e0 b).mpr h6
  have way1 : ∀ (b : Int32) (w : Nat), w < 4 → w % 2 = 1 → b = (if 2 ≤ w then 1 else 0) → ¬ fo = 1 → ¬ (2 ≤ w ∧ tu = 0) → zspl sg n (k / 10) (if k % 10 = 4 then 10 else if k % 10 = 9 then 11 else k % 10) b → zisN fo tu sg n k := fun b w h1 h2 h3 h4 h5 h6 => by
    refine ⟨w, h1, fun q => by omega, fun q => h4 q.2, h5, ?_⟩
    rw [if_neg (by omega), ← h3]
    exact (e1 b).mpr h6
  constructor
  · rintro ⟨a, r, ha, hr, hak, h1, h2⟩
    unfold zun at hak
    by_cases c : r < 10
    · rw [if_pos c] at hak h1
      have ka : k / 10 = a := by omega
      have kr : k % 10 = r := by omega
      rw [← ka, ← kr] at h2
      by_cases f : fo = 2
      · have hr49 : r ≠ 4 ∧ r ≠ 9 := by
          rcases h1 with q | q
          · exact q
          · exact absurd f q
        have rr : k % 10 = if k % 10 = 4 then 10 else if k % 10 = 9 then 11 else k % 10 := by
          rw [if_neg (by omega), if_neg (by omega)]
        have f1 : ¬ fo = 1 := by rw [f]; decide
        rcases h2 with q | ⟨q1, q2⟩
        · exact way1 0 1 (by omega) rfl rfl f1 (fun z => by omega) (by rw [← rr]; exact q)
        · exact way1 1 3 (by omega) rfl rfl f1 (fun z => q1 z.2) (by rw [← rr]; exact q2)
      · rcases h2 with q | ⟨q1, q2⟩
        · exact way0 0 0 (by omega) rfl rfl f (fun z => by omega) q
        · exact way0 1 2 (by omega) rfl rfl f (fun z => q1 z.2) q2
    · rw [if_neg c] at hak h1
      have ka : k / 10 = a := by
        split at hak <;> omega
      have rr : r = if k % 10 = 4 then 10 else if k % 10 = 9 then 11 else k % 10 := by
        by_cases d : r = 10
        · rw [if_pos d] at hak
          rw [if_pos (by omega)]
          exact d
        · rw [if_neg d] at hak
          rw [if_neg (by omega), if_pos (by omega)]
          omega
      rw [← ka, rr] at h2
      rcases h2 with q | ⟨q1, q2⟩
      · exact way1 0 1 (by omega) rfl rfl h1 (fun z => by omega) q
      · exact way1 1 3 (by omega) rfl rfl h1 (fun z => q1 z.2) q2
  · rintro ⟨w, hw, g1, g2, g3, g4⟩
    by_cases c : w % 2 = 0
    · rw [if_pos c] at g4
      have g4 := (e0 _).mp g4
      have f : ¬ fo = 2 := fun q => g1 ⟨c, q⟩
      refine ⟨k / 10, k % 10, by omega, by omega, ?_, ?_, ?_⟩
      · unfold zun
        rw [if_pos (by omega)]
        omega
      · rw [if_pos (by omega)]
        exact Or.inr f
      · by_cases d : 2 ≤ w
        · rw [if_pos d] at g4
          exact Or.inr ⟨fun q => g3 ⟨d, q⟩, g4⟩
        · rw [if_neg d] at g4
          exact Or.inl g4
    · rw [if_neg c] at g4
      have g4 := (e1 _).mp g4
      have f : ¬ fo = 1 := fun q => g2 ⟨by omega, q⟩
      refine ⟨k / 10, if k % 10 = 4 then 10 else if k % 10 = 9 then 11 else k % 10, by omega, ?_, ?_, ?_, ?_⟩
      · split
        · omega
        · split <;> omega
      · unfold zun
        by_cases d : k % 10 = 4
        · rw [if_pos d, if_neg (by omega), if_pos rfl]
          omega
        · rw [if_neg d]
          by_cases d2 : k % 10 = 9
          · rw [if_pos d2, if_neg (by omega), if_neg (by omega)]
            omega
          · rw [if_neg d2, if_pos (by omega)]
            omega
      · by_cases d : k % 10 = 4
        · rw [if_pos d, if_neg (by omega)]
          exact f
        · rw [if_neg d]
          by_cases d2 : k % 10 = 9
          · rw [if_pos d2, if_neg (by omega)]
            exact f
          · rw [if_neg d2, if_pos (by omega)]
            exact Or.inl ⟨d, d2⟩
      · by_cases d : 2 ≤ w
        · rw [if_pos d] at g4
          exact Or.inr ⟨fun q => g3 ⟨d, q⟩, g4⟩
        · rw [if_neg d] at g4
          exact Or.inl g4
