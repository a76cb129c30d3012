/-! the tape as text: T k is its byte at k, -1 behind the last -/
noncomputable def zE (P : Nat → Prop) (p : Nat) : Nat := zfst (fun e => p ≤ e ∧ ¬ P e)
theorem zE_eq {P : Nat → Prop} {p e : Nat} (h1 : p ≤ e) (h2 : ¬ P e) (h3 : ∀ i, p ≤ i → i < e → P i) : zE P p = e :=
  zfst_eq ⟨h1, h2⟩ (fun j hj q => q.2 (h3 j q.1 hj))
theorem zE_skip {P : Nat → Prop} {p : Nat} (h : P p) : zE P (p + 1) = zE P p := by
  unfold zE
  have : (fun e => p + 1 ≤ e ∧ ¬ P e) = (fun e => p ≤ e ∧ ¬ P e) := by
    funext e
    refine propext ⟨fun q => ⟨by omega, q.2⟩, fun q => ⟨?_, q.2⟩⟩
    rcases (by omega : p + 1 ≤ e ∨ e = p) with c | c
    · exact c
    · exact absurd h (by rw [← c]; exact q.2)
  rw [this]
theorem zE_stop {P : Nat → Prop} {p : Nat} (h : ¬ P p) : zE P p = p := zE_eq (Nat.le_refl _) h (fun i h1 h2 => by omega)
def zBl (T : Nat → Int32) (k : Nat) : Prop := T k = 32 ∨ T k = 10
def zLe (T : Nat → Int32) (k : Nat) : Prop := ¬ p_X2_isLetter (T k) = 0
def zDi (T : Nat → Int32) (k : Nat) : Prop := ¬ p_X2_isDigit (T k) = 0
/-- a text of tl bytes -/
def zTx (T : Nat → Int32) (tl : Nat) : Prop := tl ≤ 800 ∧ (∀ k, k < tl → 0 ≤ T k ∧ T k ≤ 255) ∧ ∀ k, tl ≤ k → T k = -1
theorem let_iff {c : Int32} : ¬ p_X2_isLetter c = 0 ↔ (97 ≤ c ∧ c ≤ 122) ∨ (65 ≤ c ∧ c ≤ 90) := by
  unfold p_X2_isLetter
  by_cases a : c < 97
  · rw [if_pos a]
    by_cases b : c < 65
    · rw [if_pos b]
      exact ⟨fun q => absurd rfl q, fun q => by rcases q with q | q <;> lia⟩
    · rw [if_neg b]
      by_cases d : 90 < c
      · rw [if_pos d]
        exact ⟨fun q => absurd rfl q, fun q => by rcases q with q | q <;> lia⟩
      · rw [if_neg d]
        exact ⟨fun _ => Or.inr ⟨by lia, by lia⟩, fun _ => by decide⟩
  · rw [if_neg a]
    by_cases b : c ≤ 122
    · rw [if_pos b]
      exact ⟨fun _ => Or.inl ⟨by lia, b⟩, fun _ => by decide⟩
    · rw [if_neg b, if_neg (by lia), if_pos (by lia)]
      exact ⟨fun q => absurd rfl q, fun q => by rcases q with q | q <;> lia⟩
theorem dig_iff {c : Int32} : ¬ p_X2_isDigit c = 0 ↔ 48 ≤ c ∧ c ≤ 57 := by
  unfold p_X2_isDigit
  by_cases a : c < 48
  · rw [if_pos a]
    exact ⟨fun q => absurd rfl q, fun q => by lia⟩
  · rw [if_neg a]
    by_cases b : 57 < c
    · rw [if_pos b]
      exact ⟨fun q => absurd rfl q, fun q => by lia⟩
    · rw [if_neg b]
      exact ⟨fun _ => ⟨by lia, by lia⟩, fun _ => by decide⟩
theorem let12 (c : Int32) : p_X12_isLetter c = 0 ↔ p_X2_isLetter c = 0 := by
  rw [← Classical.not_not (a := p_X2_isLetter c = 0), let_iff]
  unfold p_X12_isLetter
  by_cases a : p_X12_isIn c 97 122 = 0
  · rw [if_pos a]
    have a' := (isIn_0 _ _ _).mp a
    by_cases b : p_X12_isIn c 65 90 = 0
    · rw [if_pos b]
      have b' := (isIn_0 _ _ _).mp b
      exact ⟨fun _ q => q.elim a' b', fun _ => rfl⟩
    · rw [if_neg b]
      exact ⟨fun q => absurd q (by decide), fun q => absurd (Or.inr (isIn_yes.mp b)) q⟩
  · rw [if_neg a]
    exact ⟨fun q => absurd q (by decide), fun q => absurd (Or.inl (isIn_yes.mp a)) q⟩
theorem dig12 (c : Int32) : p_X12_isDigit c = 0 ↔ p_X2_isDigit c = 0 := by
  rw [← Classical.not_not (a := p_X2_isDigit c = 0), dig_iff]
  exact isIn_0 _ _ _
theorem zLe_32 {T : Nat → Int32} {k : Nat} (h : zLe T k) : ¬ T k = 32 := fun q => by
  have := let_iff.mp h
  rw [q] at this
  exact absurd this (by decide)
/-! the keywords: in the model's order, six places each -/
def zKc (k i : Nat) : Int32 := (([[112, 111, 115, 116, 32, 32], [98, 101, 97, 109, 32, 32], [114, 97, 102, 116, 101, 114], [98, 114, 97, 99, 101, 32], [102, 111, 117, 114, 32, 32], [116, 117, 114, 110, 32, 32], [115, 108, 97, 99, 107, 32], [104, 111, 108, 100, 32, 32], [108, 101, 118, 101, 108, 32], [109, 97, 114, 103, 105, 110], [115, 97, 112, 32, 32, 32], [115, 116, 111, 99, 107, 32], [97, 100, 100, 32, 32, 32], [108, 101, 115, 115, 32, 32], [98, 111, 116, 104, 32, 32], [105, 110, 116, 111, 32, 32], [97, 104, 101, 97, 100, 32], [116, 111, 32, 32, 32, 32]] : List (List Int32)).getD k []).getD i 32
def zKl (k : Nat) : Nat := ([4, 4, 6, 5, 4, 4, 5, 4, 5, 6, 3, 5, 3, 4, 4, 4, 5, 2] : List Nat).getD k 0
def zKs (k : Nat) : Nat := ([0, 5, 10, 17, 23, 28, 33, 39, 44, 50, 57, 61, 67, 71, 76, 81, 86, 92, 95] : List Nat).getD k 0
/-- the class's number of a keyword -/
def zPs (k : Nat) : Nat := ([14, 15, 16, 17, 0, 4, 5, 8, 9, 10, 11, 13, 1, 2, 3, 6, 7, 12] : List Nat).getD k 0
def zQs (w : Nat) : Nat := ([4, 12, 13, 14, 5, 6, 15, 16, 7, 8, 9, 10, 17, 11, 0, 1, 2, 3] : List Nat).getD w 0
def zGot (T : Nat → Int32) (a b i : Nat) : Int32 := if a + i < b then T (a + i) else 32
def zmw (T : Nat → Int32) (a b k : Nat) : Prop := b ≤ a + 6 ∧ ∀ i, i < 6 → zKc k i = zGot T a b i
theorem kc_one : ∀ k k' : Fin 18, (∀ i : Fin 6, zKc k.1 i.1 = zKc k'.1 i.1) → k = k' := by decide +kernel
theorem zmw_one {T : Nat → Int32} {a b k k' : Nat} (hk : k < 18) (hk' : k' < 18) (h : zmw T a b k) (h' : zmw T a b k') : k = k' := by
  have := kc_one ⟨k, hk⟩ ⟨k', hk'⟩ (fun i => (h.2 i.1 i.2).trans (h'.2 i.1 i.2).symm)
  exact congrArg Fin.val this
noncomputable def zWd (T : Nat → Int32) (a b : Nat) : Int32 := @ite _ (∃ k, k < 18 ∧ zmw T a b k) (Classical.propDecidable _) (nI (zfst (fun k => k < 18 ∧ zmw T a b k))) (-1)
theorem zWd_eq {T : Nat → Int32} {a b k : Nat} (hk : k < 18) (h : zmw T a b k) : zWd T a b = nI k := by
  have e : zWd T a b = nI (zfst (fun k => k < 18 ∧ zmw T a b k)) := @if_pos _ (Classical.propDecidable _) ⟨k, hk, h⟩ _ _ _
  rw [e]
  congr 1
  exact zfst_eq ⟨hk, h⟩ (fun j hj q => by
    have := zmw_one hk q.1 h q.2
    omega)
theorem zWd_no {T : Nat → Int32} {a b : Nat} (h : ∀ k, k < 18 → ¬ zmw T a b k) : zWd T a b = -1 :=
  @if_neg _ (Classical.propDecidable _) (fun ⟨k, h1, h2⟩ => h k h1 h2) _ _ _
theorem zWd_or (T : Nat → Int32) (a b : Nat) : zWd T a b = -1 ∨ ∃ k, k < 18 ∧ zmw T a b k ∧ zWd T a b = nI k := by
  by_cases c : ∃ k, k < 18 ∧ zmw T a b k
  · obtain ⟨k, h1, h2⟩ := c
    exact Or.inr ⟨k, h1, h2, zWd_eq h1 h2⟩
  · exact Or.inl (zWd_no (fun k h1 h2 => c ⟨k, h1, h2⟩))
/-! tokens: from q on, where no blank stands -/
noncomputable def zkd (T : Nat → Int32) (q : Nat) : Int32 :=
  if T q = -1 then 0 else @ite _ (zLe T q) (Classical.propDecidable _) (if zWd T q (zE (zLe T) q) = -1 then 4 else 1) (@ite _ (zDi T q) (Classical.propDecidable _) (if 2 < zE (zDi T) q - q then 4 else 2) (if T q = 59 then 3 else 4))
noncomputable def zvu (T : Nat → Int32) (q : Nat) : Int32 :=
  @ite _ (zLe T q) (Classical.propDecidable _) (zWd T q (zE (zLe T) q)) (if zE (zDi T) q = q + 1 then T q - 48 else 10 * (T q - 48) + T (q + 1) - 48)
noncomputable def znx (T : Nat → Int32) (q : Nat) : Nat :=
  if T q = -1 then q else @ite _ (zLe T q) (Classical.propDecidable _) (zE (zLe T) q) (@ite _ (zDi T q) (Classical.propDecidable _) (zE (zDi T) q) (q + 1))
noncomputable def zps_ (T : Nat → Int32) : Nat → Nat
  | 0 => zE (zBl T) 0
  | n + 1 => zE (zBl T) (znx T (zps_ T n))
theorem zE_bound {T : Nat → Int32} {tl p : Nat} {P : Nat → Prop} (hT : zTx T tl) (hP : ∀ k, P k → ¬ T k = -1) (hp : p ≤ tl) : p ≤ zE P p ∧ zE P p ≤ tl ∧ ¬ P (zE P p) ∧ ∀ i, p ≤ i → i < zE P p → P i := by
  have no : ¬ P tl := fun q => hP tl q (hT.2.2 tl (Nat.le_refl _))
  obtain ⟨s1, s2⟩ := zfst_is (P := fun e => p ≤ e ∧ ¬ P e) ⟨tl, hp, no⟩
  refine ⟨s1.1, Classical.byContradiction (fun q => s2 tl (by
    have : zE P p = zfst (fun e => p ≤ e ∧ ¬ P e) := rfl
    omega) ⟨hp, no⟩), s1.2, fun i h1 h2 => Classical.byContradiction (fun q => s2 i h2 ⟨h1, q⟩)⟩
theorem bl_no {T : Nat → Int32} {k : Nat} (h : zBl T k) : ¬ T k = -1 := fun q => by
  unfold zBl at h
  rw [q] at h
  exact absurd h (by decide)
theorem le_no {T : Nat → Int32} {k : Nat} (h : zLe T k) : ¬ T k = -1 := fun q => by
  unfold zLe at h
  rw [q] at h
  exact absurd rfl h
theorem di_no {T : Nat → Int32} {k : Nat} (h : zDi T k) : ¬ T k = -1 := fun q => by
  unfold zDi at h
  rw [q] at h
  exact absurd rfl h
theorem le_bl {T : Nat → Int32} {k : Nat} (h : zLe T k) : ¬ zBl T k := fun q => by
  have := let_iff.mp h
  rcases q with q | q <;> rw [q] at this <;> exact absurd this (by decide)
theorem di_bl {T : Nat → Int32} {k : Nat} (h : zDi T k) : ¬ zBl T k := fun q => by
  have := dig_iff.mp h
  rcases q with q | q <;> rw [q] at this <;> exact absurd this (by decide)
theorem di_le {T : Nat → Int32} {k : Nat} (h : zDi T k) : ¬ zLe T k := fun q => by
  have a := dig_iff.mp h
  have b := let_iff.mp q
  rcases b with b | b <;> lia
