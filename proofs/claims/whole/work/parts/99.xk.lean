/-! the tokens of a text -/
noncomputable def zTK (T : Nat → Int32) (n : Nat) : Int32 := zkd T (zps_ T n)
noncomputable def zTV (T : Nat → Int32) (n : Nat) : Int32 := zvu T (zps_ T n)
theorem kd_end {T : Nat → Int32} {q : Nat} (h : T q = -1) : zkd T q = 0 := if_pos h
theorem kd_let {T : Nat → Int32} {q : Nat} (h : zLe T q) : zkd T q = if zWd T q (zE (zLe T) q) = -1 then 4 else 1 := by
  have e : zkd T q = @ite _ (zLe T q) (Classical.propDecidable _) (if zWd T q (zE (zLe T) q) = -1 then 4 else 1) (@ite _ (zDi T q) (Classical.propDecidable _) (if 2 < zE (zDi T) q - q then 4 else 2) (if T q = 59 then 3 else 4)) := if_neg (le_no h)
  rw [e]
  exact @if_pos _ (Classical.propDecidable _) h _ _ _
theorem kd_dig {T : Nat → Int32} {q : Nat} (h : zDi T q) : zkd T q = if 2 < zE (zDi T) q - q then 4 else 2 := by
  have e : zkd T q = @ite _ (zLe T q) (Classical.propDecidable _) (if zWd T q (zE (zLe T) q) = -1 then 4 else 1) (@ite _ (zDi T q) (Classical.propDecidable _) (if 2 < zE (zDi T) q - q then 4 else 2) (if T q = 59 then 3 else 4)) := if_neg (di_no h)
  have e2 : @ite _ (zLe T q) (Classical.propDecidable _) (if zWd T q (zE (zLe T) q) = -1 then (4 : Int32) else 1) (@ite _ (zDi T q) (Classical.propDecidable _) (if 2 < zE (zDi T) q - q then 4 else 2) (if T q = 59 then 3 else 4)) = @ite _ (zDi T q) (Classical.propDecidable _) (if 2 < zE (zDi T) q - q then 4 else 2) (if T q = 59 then 3 else 4) := @if_neg _ (Classical.propDecidable _) (di_le h) _ _ _
  rw [e, e2]
  exact @if_pos _ (Classical.propDecidable _) h _ _ _
theorem kd_oth {T : Nat → Int32} {q : Nat} (h0 : ¬ T q = -1) (h1 : ¬ zLe T q) (h2 : ¬ zDi T q) : zkd T q = if T q = 59 then 3 else 4 := by
  have e : zkd T q = @ite _ (zLe T q) (Classical.propDecidable _) (if zWd T q (zE (zLe T) q) = -1 then 4 else 1) (@ite _ (zDi T q) (Classical.propDecidable _) (if 2 < zE (zDi T) q - q then 4 else 2) (if T q = 59 then 3 else 4)) := if_neg h0
  have e2 : @ite _ (zLe T q) (Classical.propDecidable _) (if zWd T q (zE (zLe T) q) = -1 then (4 : Int32) else 1) (@ite _ (zDi T q) (Classical.propDecidable _) (if 2 < zE (zDi T) q - q then 4 else 2) (if T q = 59 then 3 else 4)) = @ite _ (zDi T q) (Classical.propDecidable _) (if 2 < zE (zDi T) q - q then 4 else 2) (if T q = 59 then 3 else 4) := @if_neg _ (Classical.propDecidable _) h1 _ _ _
  rw [e, e2]
  exact @if_neg _ (Classical.propDecidable _) h2 _ _ _
theorem vu_let {T : Nat → Int32} {q : Nat} (h : zLe T q) : zvu T q = zWd T q (zE (zLe T) q) := @if_pos _ (Classical.propDecidable _) h _ _ _
theorem vu_dig {T : Nat → Int32} {q : Nat} (h : zDi T q) : zvu T q = if zE (zDi T) q = q + 1 then T q - 48 else 10 * (T q - 48) + T (q + 1) - 48 := @if_neg _ (Classical.propDecidable _) (di_le h) _ _ _
theorem nx_end {T : Nat → Int32} {q : Nat} (h : T q = -1) : znx T q = q := if_pos h
theorem nx_let {T : Nat → Int32} {q : Nat} (h : zLe T q) : znx T q = zE (zLe T) q := by
  have e : znx T q = @ite _ (zLe T q) (Classical.propDecidable _) (zE (zLe T) q) (@ite _ (zDi T q) (Classical.propDecidable _) (zE (zDi T) q) (q + 1)) := if_neg (le_no h)
  rw [e]
  exact @if_pos _ (Classical.propDecidable _) h _ _ _
theorem nx_dig {T : Nat → Int32} {q : Nat} (h : zDi T q) : znx T q = zE (zDi T) q := by
  have e : znx T q = @ite _ (zLe T q) (Classical.propDecidable _) (zE (zLe T) q) (@ite _ (zDi T q) (Classical.propDecidable _) (zE (zDi T) q) (q + 1)) := if_neg (di_no h)
  have e2 : @ite _ (zLe T q) (Classical.propDecidable _) (zE (zLe T) q) (@ite _ (zDi T q) (Classical.propDecidable _) (zE (zDi T) q) (q + 1)) = @ite _ (zDi T q) (Classical.propDecidable _) (zE (zDi T) q) (q + 1) := @if_neg _ (Classical.propDecidable _) (di_le h) _ _ _
  rw [e, e2]
  exact @if_pos _ (Classical.propDecidable _) h _ _ _
theorem nx_oth {T : Nat → Int32} {q : Nat} (h0 : ¬ T q = -1) (h1 : ¬ zLe T q) (h2 : ¬ zDi T q) : znx T q = q + 1 := by
  have e : znx T q = @ite _ (zLe T q) (Classical.propDecidable _) (zE (zLe T) q) (@ite _ (zDi T q) (Classical.propDecidable _) (zE (zDi T) q) (q + 1)) := if_neg h0
  have e2 : @ite _ (zLe T q) (Classical.propDecidable _) (zE (zLe T) q) (@ite _ (zDi T q) (Classical.propDecidable _) (zE (zDi T) q) (q + 1)) = @ite _ (zDi T q) (Classical.propDecidable _) (zE (zDi T) q) (q + 1) := @if_neg _ (Classical.propDecidable _) h1 _ _ _
  rw [e, e2]
  exact @if_neg _ (Classical.propDecidable _) h2 _ _ _
theorem blank_iff {c : Int32} : ¬ p_X2_isBlank c = 0 ↔ c = 32 ∨ c = 10 := by
  unfold p_X2_isBlank
  by_cases a : c = 32
  · rw [if_pos a]
    exact ⟨fun _ => Or.inl a, fun _ => by decide⟩
  · rw [if_neg a]
    by_cases b : c = 10
    · rw [if_pos b]
      exact ⟨fun _ => Or.inr b, fun _ => by decide⟩
    · rw [if_neg b]
      exact ⟨fun q => absurd rfl q, fun q => q.elim (fun q => absurd q a) (fun q => absurd q b)⟩
/-- the first n tokens stand in the class's rows, as far as there is room -/
def zSp (I0 I : zFI) (T : Nat → Int32) (n : Nat) : Prop := (∀ b, b ≠ 3 → b ≠ 4 → b ≠ 5 → b ≠ 6 → I b = I0 b) ∧ (∀ k, k ≠ 3 → I 3 k = I0 3 k) ∧ I 3 3 = nI (if n ≤ 201 then n else 201) ∧
  ∀ i, i < n → i < 201 → I 4 i = zTK T i ∧ (zTK T i = 1 → I 5 i = nI (zPs (zTV T i).toNatClampNeg)) ∧ (zTK T i = 2 → I 5 i = zTV T i) ∧ I 6 i = nI (zps_ T i)
theorem c_keep {G : Gp} {Q : zPost} {S : zSh} {I0 I : zFI} {L : zFL} {T : Nat → Int32} {n : Nat} {k v p : Int32} (hS : zStd S) (h : zSp I0 I T n) (hn : n < 2147483647) (hk : k = zTK T n) (h1 : k = 1 → v = nI (zPs (zTV T n).toNatClampNeg)) (h2 : k = 2 → v = zTV T n) (hp : p = nI (zps_ T n)) (q : ∀ J, zSp I0 J T (n + 1) → Q none S J L) : ZC G mX2_keep fX2_keep lX2_keep [zo G 3, .int k, .int v, .int p] S I L 0 0 Q := by
  obtain ⟨a1, a2, a3, a4⟩ := h
  refine ZC.of' (vX2_keep_0 hS ⟨fun c => ?_, fun c => ?_⟩) rfl (Nat.le_of_ble_eq_true rfl) rfl
  · rw [a3, zle, znI (by split <;> omega), show (201 : Int32).toInt = 201 from rfl] at c
    have : ¬ n < 201 := fun y => by
      rw [if_pos (by omega)] at c
      omega
    refine q I ⟨a1, a2, ?_, fun i i1 i2 => a4 i (by omega) i2⟩
    rw [a3]
    congr 1
    split <;> split <;> omega
  · rw [a3, zle, znI (by split <;> omega), show (201 : Int32).toInt = 201 from rfl] at c
    have n201 : n < 201 := Classical.byContradiction (fun y => by
      by_cases e : n ≤ 201
      · rw [if_pos e] at c
        omega
      · rw [if_neg e] at c
        omega)
    have e3 : I 3 3 = nI n := by
      rw [a3, if_pos (by omega)]
    rw [e3, znIc (by omega), nI_1]
    refine ⟨znIin n201 (by omega), q _ ⟨fun b b3 b4 b5 b6 => ?_, fun j hj => ?_, ?_, fun i i1 i2 => ?_⟩⟩
    · rw [← u2_row _ _ _ _ b3, ← u2_row _ _ _ _ b6, ← u2_row _ _ _ _ b5, ← u2_row _ _ _ _ b4]
      exact a1 b b3 b4 b5 b6
    · rw [u2_ne _ _ _ _ (by omega), u2_ne _ _ _ _ (by omega), u2_ne _ _ _ _ (by omega), u2_ne _ _ _ _ (by omega)]
      exact a2 j hj
    · rw [u2_same, if_pos (by omega)]
    · rcases (by omega : i < n ∨ i = n) with e | e
      · rw [u2_ne _ _ _ _ (by omega), u2_ne _ _ _ _ (by omega), u2_ne _ _ _ _ (by omega), u2_ne _ _ _ _ (by omega), u2_ne _ _ _ _ (by omega), u2_ne _ _ _ _ (by omega), u2_ne _ _ _ _ (by omega), u2_ne _ _ _ _ (by omega), u2_ne _ _ _ _ (by omega), u2_ne _ _ _ _ (by omega), u2_ne _ _ _ _ (by omega), u2_ne _ _ _ _ (by omega)]
        exact a4 i e i2
      · rw [e, u2_ne _ _ _ _ (by omega), u2_ne _ _ _ _ (by omega), u2_ne _ _ _ _ (by omega), u2_same, u2_ne _ _ _ _ (by omega), u2_ne _ _ _ _ (by omega), u2_same, u2_ne _ _ _ _ (by omega), u2_same]
        exact ⟨hk, fun y => h1 (hk.trans y), fun y => h2 (hk.trans y), hp⟩
theorem prev_at {J : zFI} {T : Nat → Int32} {tl p : Nat} (tp : zTp J T tl) (hp : p < 2147483648) : p_X9_byteAt J (nI p - 1) = if 0 < p then T (p - 1) else -1 := by
  cases p with
  | zero =>
    rw [if_neg (by omega)]
    unfold p_X9_byteAt
    exact if_pos (by decide)
  | succ k =>
    rw [if_pos (by omega), nI_pre, by_at tp (by omega)]
    rfl
theorem beg_0 {J : zFI} {T : Nat → Int32} {tl p : Nat} (tp : zTp J T tl) (hp : p < 2147483648) : p_X2_beginsToken J (nI p) = 0 ↔ (zLe T p ∧ 0 < p ∧ zLe T (p - 1)) ∨ (zDi T p ∧ 0 < p ∧ zDi T (p - 1)) ∨ zBl T p := by
  have bt : p_X9_byteAt J (nI p) = T p := by_at tp hp
  have pv := prev_at tp hp
  have pl : ¬ p_X2_isLetter (p_X9_byteAt J (nI p - 1)) = 0 ↔ 0 < p ∧ zLe T (p - 1) := by
    rw [pv]
    by_cases c : 0 < p
    · rw [if_pos c]
      exact ⟨fun q => ⟨c, q⟩, fun q => q.2⟩
    · rw [if_neg c]
      exact ⟨fun q => absurd (by decide) q, fun q => absurd q.1 c⟩
  have pd : ¬ p_X2_isDigit (p_X9_byteAt J (nI p - 1)) = 0 ↔ 0 < p ∧ zDi T (p - 1) := by
    rw [pv]
    by_cases c : 0 < p
    · rw [if_pos c]
      exact ⟨fun q => ⟨c, q⟩, fun q => q.2⟩
    · rw [if_neg c]
      exact ⟨fun q => absurd (by decide) q, fun q => absurd q.1 c⟩
  unfold p_X2_beginsToken
  rw [bt]
  by_cases l : p_X2_isLetter (T p) = 0
  · rw [if_pos l]
    by_cases d : p_X2_isDigit (T p) = 0
    · rw [if_pos d]
      by_cases b : p_X2_isBlank (T p) = 0
      · rw [if_pos b]
        exact ⟨fun q => absurd q (by decide), fun q => by
          rcases q with q | q | q
          · exact absurd l q.1
          · exact absurd d q.1
          · exact absurd b (blank_iff.mpr q)⟩
      · rw [if_neg b]
        exact ⟨fun _ => Or.inr (Or.inr (blank_iff.mp b)), fun _ => rfl⟩
    · rw [if_neg d]
      by_cases e : p_X2_isDigit (p_X9_byteAt J (nI p - 1)) = 0
      · rw [if_pos e]
        exact ⟨fun q => absurd q (by decide), fun q => by
          rcases q with q | q | q
          · exact absurd l q.1
          · exact absurd e (pd.mpr q.2)
          · exact absurd q (di_bl d)⟩
      · rw [if_neg e]
        exact ⟨fun _ => Or.inr (Or.inl ⟨d, pd.mp e⟩), fun _ => rfl⟩
  · rw [if_neg l]
    by_cases e : p_X2_isLetter (p_X9_byteAt J (nI p - 1)) = 0
    · rw [if_pos e]
      exact ⟨fun q => absurd q (by decide), fun q => by
        rcases q with q | q | q
        · exact absurd e (pl.mpr q.2)
        · exact absurd l (di_le q.1)
        · exact absurd q (le_bl l)⟩
    · rw [if_neg e]
      exact ⟨fun _ => Or.inl ⟨l, pl.mp e⟩, fun _ => rfl⟩
/-- the token that begins at p is kept -/
theorem c_keepTok {G : Gp} {Q : zPost} {S : zSh} {I J : zFI} {L : zFL} {T : Nat → Int32} {tl p n : Nat} (hS : zStd S) (tp : zTp J T tl) (np : n ≤ p) (lt : p < tl) (sp : zSp I J T n) (pq : zps_ T n = p) (n3 : ¬ zBl T p) (q : ∀ K, zSp I K T (n + 1) → Q none S K L) : ZC G mX2_keepToken fX2_keepToken lX2_keepToken [zo G 3, zo G 1, .int (nI p)] S J L 0 0 Q := by
  have hT := tp.2.1
  have t800 : tl ≤ 800 := hT.1
  have bt : p_X9_byteAt J (nI p) = T p := by_at tp (by omega)
  have te : ¬ T p = -1 := fun y => by
    have := (hT.2.1 p lt).1
    rw [y] at this
    exact absurd this (by decide)
  refine ZC.of' (vX2_keepToken_0 hS ⟨fun nl => ⟨fun nd => ⟨fun n59 => ?_, fun y59 => ?_⟩, fun dg => ?_⟩, fun lt' => ?_⟩) rfl (Nat.le_of_ble_eq_true rfl) rfl
  · rw [bt] at nl nd n59
    have n1 : ¬ zLe T p := fun y => y nl
    have n2 : ¬ zDi T p := fun y => y nd
    have ek : zkd T p = 4 := by rw [kd_oth te n1 n2, if_neg n59]
    have ek' : zTK T n = 4 := by unfold zTK; rw [pq]; exact ek
    exact c_keep hS sp (by omega) ek'.symm (fun y => absurd y (by decide)) (fun y => absurd y (by decide)) (by rw [pq]) (fun K sk => ⟨rfl, rfl, q K sk⟩)
  · rw [bt] at nl nd y59
    have n1 : ¬ zLe T p := fun y => y nl
    have n2 : ¬ zDi T p := fun y => y nd
    have ek : zkd T p = 3 := by rw [kd_oth te n1 n2, if_pos y59]
    have ek' : zTK T n = 3 := by unfold zTK; rw [pq]; exact ek
    exact c_keep hS sp (by omega) ek'.symm (fun y => absurd y (by decide)) (fun y => absurd y (by decide)) (by rw [pq]) (fun K sk => ⟨rfl, rfl, q K sk⟩)
  · rw [bt] at dg
    have hd : zDi T p := dg
    obtain ⟨b1, b2, b3, b4⟩ := zE_bound hT (fun k => di_no (T := T) (k := k)) (show p ≤ tl by omega)
    have pr : p < zE (zDi T) p := Classical.byContradiction (fun y => b3 (by rw [show zE (zDi T) p = p by omega]; exact hd))
    have er : (nI (zE (zDi T) p) - nI p).toInt = ((zE (zDi T) p : Nat) : Int) - (p : Int) := by
      rw [zsub (by rw [znI (by omega), znI (by omega)]; omega) (by rw [znI (by omega), znI (by omega)]; omega), znI (by omega), znI (by omega)]
    refine c_endD hS tp (by omega) hd ⟨_, rfl, rfl, fun le => ?_, fun gt => ?_⟩
    · rw [zle, er, show (2 : Int32).toInt = 2 from rfl] at le
      have ek : zkd T p = 2 := by rw [kd_dig hd, if_neg (by omega)]
      have ek' : zTK T n = 2 := by unfold zTK; rw [pq]; exact ek
      refine c_numberAt hS tp pr b2 (fun x hx => ⟨_, rfl, rfl, c_keep hS sp (by omega) ek'.symm (fun y => absurd y (by decide)) (fun _ => ?_) (by rw [pq]) (fun K sk => ⟨rfl, rfl, q K sk⟩)⟩)
      unfold zTV
      rw [pq, vu_dig hd]
      exact hx (by omega)
    · rw [zle, er, show (2 : Int32).toInt = 2 from rfl] at gt
      have ek : zkd T p = 4 := by rw [kd_dig hd, if_pos (by omega)]
      have ek' : zTK T n = 4 := by unfold zTK; rw [pq]; exact ek
      exact c_numberAt hS tp pr b2 (fun x hx => ⟨_, rfl, rfl, c_keep hS sp (by omega) ek'.symm (fun y => absurd y (by decide)) (fun y => absurd y (by decide)) (by rw [pq]) (fun K sk => ⟨rfl, rfl, q K sk⟩)⟩)
  · rw [bt] at lt'
    have hl : zLe T p := lt'
    obtain ⟨b1, b2, b3, b4⟩ := zE_bound hT (fun k => le_no (T := T) (k := k)) (show p ≤ tl by omega)
    refine c_endL hS tp (by omega) hl ⟨_, rfl, rfl, c_wordNumber hS tp b1 b2 (fun x hx => ⟨_, rfl, rfl, fun nx => ?_, fun ex => ?_⟩)⟩
    · rcases hx with ⟨y, -⟩ | ⟨k, k1, k2, k3⟩
      · exact absurd y nx
      · have ek : zkd T p = 1 := by
          rw [kd_let hl, if_neg (by rw [k2]; exact nI_neg1 (by omega))]
        have ek' : zTK T n = 1 := by unfold zTK; rw [pq]; exact ek
        refine c_keep hS sp (by omega) ek'.symm (fun _ => ?_) (fun y => absurd y (by decide)) (by rw [pq]) (fun K sk => ⟨rfl, rfl, q K sk⟩)
        unfold zTV
        rw [pq, vu_let hl, k2, znIc (by omega)]
        exact k3
    · rcases hx with ⟨-, y⟩ | ⟨k, k1, k2, k3⟩
      · have ek : zkd T p = 4 := by rw [kd_let hl, if_pos y]
        have ek' : zTK T n = 4 := by unfold zTK; rw [pq]; exact ek
        exact c_keep hS sp (by omega) ek'.symm (fun y => absurd y (by decide)) (fun y => absurd y (by decide)) (by rw [pq]) (fun K sk => ⟨rfl, rfl, q K sk⟩)
      · have p18 : ∀ k : Fin 18, zPs k.1 < 18 := by decide +kernel
        have : zPs k < 18 := p18 ⟨k, k1⟩
        rw [k3] at ex
        exact absurd ex (nI_neg1 (by omega))
theorem c_split {G : Gp} {Q : zPost} {S : zSh} {I : zFI} {L : zFL} {T : Nat → Int32} {tl : Nat} (hS : zStd S) (h : zTp I T tl) (q : ∀ J N, zSp I J T (N + 1) → zTK T N = 0 → (∀ i, i < N → ¬ zTK T i = 0) → Q none S J L) : ZC G mX2_split fX2_split lX2_split [zo G 3, zo G 1] S I L 0 0 Q := by
  have t800 : tl ≤ 800 := h.2.1.1
  have hT := h.2.1
  -- r: where the token that p stands in ends, or p itself
  have main : ∀ (d p r n : Nat) (J : zFI), p + d = tl → p ≤ r → r ≤ tl → zE (zBl T) r = zps_ T n → (∀ x, p ≤ x → x < r → 0 < x ∧ ((zLe T x ∧ zLe T (x - 1)) ∨ (zDi T x ∧ zDi T (x - 1)))) → (0 < r → (zLe T r → ¬ zLe T (r - 1)) ∧ (zDi T r → ¬ zDi T (r - 1))) → n ≤ p → zSp I J T n → (∀ i, i < n → ¬ zTK T i = 0) → ZW G mX2_split fX2_split lX2_split 7 [zo G 3, zo G 1, .int (nI p)] [] S J L 0 0 Q := by
    intro d
    induction d with
    | zero =>
      intro p r n J hp pr rt hq ins cut np sp no
      have e : p = tl := by omega
      have er : r = p := by omega
      rw [er] at hq
      have tp : zTp J T tl := ⟨by rw [sp.1 1 (by omega) (by omega) (by omega) (by omega)]; exact h.1, hT, fun k hk => by rw [sp.1 2 (by omega) (by omega) (by omega) (by omega)]; exact h.2.2 k hk⟩
      have sz : p_X9_size J = nI tl := tp.1
      have te : T p = -1 := hT.2.2 p (by omega)
      have pq : zps_ T n = p := by
        rw [← hq]
        exact zE_stop (fun y => bl_no y te)
      have k0 : zTK T n = 0 := by
        unfold zTK
        rw [pq]
        exact kd_end te
      refine vX2_split_7 hS ⟨fun _ => ?_, fun c => absurd (show p_X9_size J ≤ nI p by rw [sz, e]; exact Int32.le_refl _) c⟩
      exact c_keep hS sp (by omega) k0.symm (fun y => absurd y (by decide)) (fun y => absurd y (by decide)) (by rw [sz, pq, e]) (fun K sk => ⟨rfl, rfl, q K n sk k0 no⟩)
    | succ d ih =>
      intro p r n J hp pr rt hq ins cut np sp no
      have tp : zTp J T tl := ⟨by rw [sp.1 1 (by omega) (by omega) (by omega) (by omega)]; exact h.1, hT, fun k hk => by rw [sp.1 2 (by omega) (by omega) (by omega) (by omega)]; exact h.2.2 k hk⟩
      have sz : p_X9_size J = nI tl := tp.1
      have lt : p < tl := by omega
      have te : ¬ T p = -1 := fun y => by
        have := (hT.2.1 p lt).1
        rw [y] at this
        exact absurd this (by decide)
      have bg := beg_0 (p := p) tp (by omega)
      refine vX2_split_7 hS ⟨fun c => ?_, fun _ => ⟨fun b0 => ?_, fun b1 => ?_⟩⟩
      · rw [sz, zle, znI (by omega), znI (by omega)] at c
        omega
      · rw [nI_1]
        rcases (by omega : p < r ∨ r = p) with y | y
        · exact ih (p + 1) r n J (by omega) (by omega) rt hq (fun x h1 h2 => ins x (by omega) h2) cut (by omega) sp no
        · rw [y] at hq cut
          have hb : zBl T p := by
            rcases bg.mp b0 with z | z | z
            · exact absurd z.2.2 ((cut z.2.1).1 z.1)
            · exact absurd z.2.2 ((cut z.2.1).2 z.1)
            · exact z
          exact ih (p + 1) (p + 1) n J (by omega) (Nat.le_refl _) (by omega) (by rw [zE_skip hb]; exact hq) (fun x h1 h2 => absurd h2 (by omega)) (fun _ => ⟨fun _ z => absurd hb (le_bl (show zLe T p from z)), fun _ z => absurd hb (di_bl (show zDi T p from z))⟩) (by omega) sp no
      · have y : r = p := Classical.byContradiction (fun no' => by
          obtain ⟨z1, z2⟩ := ins p (Nat.le_refl _) (by omega)
          refine b1 (bg.mpr ?_)
          rcases z2 with z2 | z2
          · exact Or.inl ⟨z2.1, z1, z2.2⟩
          · exact Or.inr (Or.inl ⟨z2.1, z1, z2.2⟩))
        rw [y] at hq
        have nb : ¬ zBl T p := fun z => b1 (bg.mpr (Or.inr (Or.inr z)))
        have pq : zps_ T n = p := by rw [← hq]; exact zE_stop nb
        refine c_keepTok hS tp np lt sp pq nb (fun K sk => ⟨rfl, rfl, ?_⟩)
        rw [nI_1]
        have nq : ∀ r', znx T p = r' → zE (zBl T) r' = zps_ T (n + 1) := fun r' e => by
          show _ = zE (zBl T) (znx T (zps_ T n))
          rw [pq, e]
        have ek : zTK T n = zkd T p := by unfold zTK; rw [pq]
        have nt : ¬ zkd T p = 0 → ∀ i, i < n + 1 → ¬ zTK T i = 0 := fun z i hi => by
          rcases (by omega : i < n ∨ i = n) with w | w
          · exact no i w
          · rw [w, ek]
            exact z
        by_cases hl : zLe T p
        · obtain ⟨b1, b2, b3, b4⟩ := zE_bound hT (fun k => le_no (T := T) (k := k)) (show p ≤ tl by omega)
          have pr : p < zE (zLe T) p := Classical.byContradiction (fun y => b3 (by rw [show zE (zLe T) p = p by omega]; exact hl))
          exact ih (p + 1) (zE (zLe T) p) (n + 1) K (by omega) (by omega) b2 (nq _ (nx_let hl)) (fun x h1 h2 => ⟨by omega, Or.inl ⟨b4 x (by omega) h2, b4 (x - 1) (by omega) (by omega)⟩⟩) (fun _ => ⟨fun z => absurd z b3, fun z z' => absurd (b4 _ (by omega) (by omega)) (di_le z')⟩) (by omega) sk (nt (by
            rw [kd_let hl]
            split <;> decide))
        · by_cases hd : zDi T p
          · obtain ⟨b1, b2, b3, b4⟩ := zE_bound hT (fun k => di_no (T := T) (k := k)) (show p ≤ tl by omega)
            have pr : p < zE (zDi T) p := Classical.byContradiction (fun y => b3 (by rw [show zE (zDi T) p = p by omega]; exact hd))
            exact ih (p + 1) (zE (zDi T) p) (n + 1) K (by omega) (by omega) b2 (nq _ (nx_dig hd)) (fun x h1 h2 => ⟨by omega, Or.inr ⟨b4 x (by omega) h2, b4 (x - 1) (by omega) (by omega)⟩⟩) (fun _ => ⟨fun z z' => di_le (b4 _ (by omega) (by omega)) z', fun z => absurd z b3⟩) (by omega) sk (nt (by
              rw [kd_dig hd]
              split <;> decide))
          · exact ih (p + 1) (p + 1) (n + 1) K (by omega) (Nat.le_refl _) (by omega) (nq _ (nx_oth te hl hd)) (fun x h1 h2 => absurd h2 (by omega)) (fun _ => ⟨fun _ z => hl z, fun _ z => hd z⟩) (by omega) sk (nt (by
              rw [kd_oth te hl hd]
              split <;> decide))
  exact ZC.of' (vX2_split_0 hS (main tl 0 0 0 _ (by omega) (Nat.le_refl _) (Nat.zero_le _) rfl (fun x _ h2 => absurd h2 (Nat.not_lt_zero _)) (fun h0 => absurd h0 (Nat.lt_irrefl _)) (Nat.le_refl _) ⟨fun b b3 _ _ _ => (u2_row _ _ _ _ b3).symm, fun k hk => u2_ne _ _ _ _ (fun y => hk y.2), u2_same _ _ _ _, fun i hi => absurd hi (Nat.not_lt_zero _)⟩ (fun i hi => absurd hi (Nat.not_lt_zero _)))) rfl (Nat.le_of_ble_eq_true rfl) rfl
