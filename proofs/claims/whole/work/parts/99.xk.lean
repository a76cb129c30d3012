/-! the tokens of a text -/
noncomputable def zTK (T : Nat → Int32) (n : Nat) : Int32 := zkd T (zps_ T n)
noncomputable def zTV (T : Nat → Int32) (n : Nat) : Int32 := zvu T (zps_ T n)
theorem kd_end {T : Nat → Int32} {q : Nat} (h : T q = -1) : zkd T q = 0 := if_pos h
theorem kd_let {T : Nat → Int32} {q : Nat} (h : zLe T q) : zkd T q = if zWd T q (zE (zLe T) q) = -1 then 4 else 1 := by
  have e : zkd T q = @ite _ (zLe T q) (Classical.propDecidable _) (if zWd T q (zE (zLe T) q) = -1 then 4 else 1) (@ite _ (zDi T q) (Classical.propDecidable _) (if 2 < zE (zDi T) q - q then 4 else 2) (if T q = 59 then 3 else 4)) := if_neg (le_no h)
  rw [e]
  exact @if_pos _ (Classical.propDecidable _) h _ _ _
theorem kd_dig {T : Nat → Int32} {q : Nat} (h : zDi T q) : zkd T q = if 2 < zE (zDi T) q - q then 4 else 2 := by
  have e : zkd T q = @ite _ (zLe T q) (Classical.propDecidable _) (if zWd T q (zE (zLe T) q) = -1 then 4 else 1) (@ite _ (zDi T q) (Classical.propDecidable _) (if 2 < zE (zDi T) q - q then 4 else 2) (if T q = 59 then 3 else 4)) := if_neg (di_no h)
  have e2 : @ite _ (zLe T q) (Classical.propDecidable _) (if zWd T q (zE (zLe T) q) = -1 then (4 : Int32) else 1) (@ite _ (zDi T q) (Classical.propDecidable _) (if 2 < zE (zDi T) q - q then 4 else 2) (if T q = 59 then 3 else 4)) = @ite _ (zDi T q) (Classical.propDecidable _) (if 2 < zE (zDi T) q - q then 4 else 2) (if T q = 59 then 3 else 4) := @if_neg _ (Classical.propDecidable _) (di_le h) _ _ _
  rw [e, e2]
  exact @if_pos _ (Classical.propDecidable _) h _ _ _
theorem kd_oth {T : Nat → Int32} {q : Nat} (h0 : ¬ T q = -1) (h1 : ¬ zLe T q) (h2 : ¬ zDi T q) : zkd T q = if T q = 59 then 3 else 4 := by
  have e : zkd T q = @ite _ (zLe T q) (Classical.propDecidable _) (if zWd T q (zE (zLe T) q) = -1 then 4 else 1) (@ite _ (zDi T q) (Classical.propDecidable _) (if 2 < zE (zDi T) q - q then 4 else 2) (if T q = 59 then 3 else 4)) := if_neg h0
  have e2 : @ite _ (zLe T q) (Classical.propDecidable _) (if zWd T q (zE (zLe T) q) = -1 then (4 : Int32) else 1) (@ite _ (zDi T q) (Classical.propDecidable _) (if 2 < zE (zDi T) q - q then 4 else 2) (if T q = 59 then 3 else 4)) = @ite _ (zDi T q) (Classical.propDecidable _) (if 2 < zE (zDi T) q - q then 4 else 2) (if T q = 59 then 3 else 4) := @if_neg _ (Classical.propDecidable _) h1 _ _ _
  rw [e, e2]
  exact @if_neg _ (Classical.propDecidable _) h2 _ _ _
theorem vu_let {T : Nat → Int32} {q : Nat} (h : zLe T q) : zvu T q = zWd T q (zE (zLe T) q) := @if_pos _ (Classical.propDecidable _) h _ _ _
theorem vu_dig {T : Nat → Int32} {q : Nat} (h : zDi T q) : zvu T q = if zE (zDi T) q = q + 1 then T q - 48 else 10 * (T q - 48) + T (q + 1) - 48 := @if_neg _ (Classical.propDecidable _) (di_le h) _ _ _
theorem nx_end {T : Nat → Int32} {q : Nat} (h : T q = -1) : znx T q = q := if_pos h
theorem nx_let {T : Nat → Int32} {q : Nat} (h : zLe T q) : znx T q = zE (zLe T) q := by
  have e : znx T q = @ite _ (zLe T q) (Classical.propDecidable _) (zE (zLe T) q) (@ite _ (zDi T q) (Classical.propDecidable _) (zE (zDi T) q) (q + 1)) := if_neg (le_no h)
  rw [e]
  exact @if_pos _ (Classical.propDecidable _) h _ _ _
theorem nx_dig {T : Nat → Int32} {q : Nat} (h : zDi T q) : znx T q = zE (zDi T) q := by
  have e : znx T q = @ite _ (zLe T q) (Classical.propDecidable _) (zE (zLe T) q) (@ite _ (zDi T q) (Classical.propDecidable _) (zE (zDi T) q) (q + 1)) := if_neg (di_no h)
  have e2 : @ite _ (zLe T q) (Classical.propDecidable _) (zE (zLe T) q) (@ite _ (zDi T q) (Classical.propDecidable _) (zE (zDi T) q) (q + 1)) = @ite _ (zDi T q) (Classical.propDecidable _) (zE (zDi T) q) (q + 1) := @if_neg _ (Classical.propDecidable _) (di_le h) _ _ _
  rw [e, e2]
  exact @if_pos _ (Classical.propDecidable _) h _ _ _
theorem nx_oth {T : Nat → Int32} {q : Nat} (h0 : ¬ T q = -1) (h1 : ¬ zLe T q) (h2 : ¬ zDi T q) : znx T q = q + 1 := by
  have e : znx T q = @ite _ (zLe T q) (Classical.propDecidable _) (zE (zLe T) q) (@ite _ (zDi T q) (Classical.propDecidable _) (zE (zDi T) q) (q + 1)) := if_neg h0
  have e2 : @ite _ (zLe T q) (Classical.propDecidable _) (zE (zLe T) q) (@ite _ (zDi T q) (Classical.propDecidable _) (zE (zDi T) q) (q + 1)) = @ite _ (zDi T q) (Classical.propDecidable _) (zE (zDi T) q) (q + 1) := @if_neg _ (Classical.propDecidable _) h1 _ _ _
  rw [e, e2]
  exact @if_neg _ (Classical.propDecidable _) h2 _ _ _
theorem blank_iff {c : Int32} : ¬ p_X2_isBlank c = 0 ↔ c = 32 ∨ c = 10 := by
  unfold p_X2_isBlank
  by_cases a : c = 32
  · rw [if_pos a]
    exact ⟨fun _ => Or.inl a, fun _ => by decide⟩
  · rw [if_neg a]
    by_cases b : c = 10
    · rw [if_pos b]
      exact ⟨fun _ => Or.inr b, fun _ => by decide⟩
    · rw [if_neg b]
      exact ⟨fun q => absurd rfl q, fun q => q.elim (fun q => absurd q a) (fun q => absurd q b)⟩
/-- the first n tokens stand in the class's rows, as far as there is room -/
def zSp (I0 I : zFI) (T : Nat → Int32) (n : Nat) : Prop := (∀ b, b ≠ 3 → b ≠ 4 → b ≠ 5 → b ≠ 6 → I b = I0 b) ∧ (∀ k, k ≠ 3 → I 3 k = I0 3 k) ∧ I 3 3 = nI (if n ≤ 201 then n else 201) ∧
  ∀ i, i < n → i < 201 → I 4 i = zTK T i ∧ (zTK T i = 1 → I 5 i = nI (zPs (zTV T i).toNatClampNeg)) ∧ (zTK T i = 2 → I 5 i = zTV T i) ∧ I 6 i = nI (zps_ T i)
theorem c_keep {G : Gp} {Q : zPost} {S : zSh} {I0 I : zFI} {L : zFL} {T : Nat → Int32} {n : Nat} {k v p : Int32} (hS : zStd S) (h : zSp I0 I T n) (hn : n < 2147483647) (hk : k = zTK T n) (h1 : k = 1 → v = nI (zPs (zTV T n).toNatClampNeg)) (h2 : k = 2 → v = zTV T n) (hp : p = nI (zps_ T n)) (q : ∀ J, zSp I0 J T (n + 1) → Q none S J L) : ZC G mX2_keep fX2_keep lX2_keep [zo G 3, .int k, .int v, .int p] S I L 0 0 Q := by
  obtain ⟨a1, a2, a3, a4⟩ := h
  refine ZC.of' (vX2_keep_0 hS ⟨fun c => ?_, fun c => ?_⟩) rfl (Nat.le_of_ble_eq_true rfl) rfl
  · rw [a3, zle, znI (by split <;> omega), show (201 : Int32).toInt = 201 from rfl] at c
    have : ¬ n < 201 := fun y => by
      rw [if_pos (by omega)] at c
      omega
    refine q I ⟨a1, a2, ?_, fun i i1 i2 => a4 i (by omega) i2⟩
    rw [a3]
    congr 1
    split <;> split <;> omega
  · rw [a3, zle, znI (by split <;> omega), show (201 : Int32).toInt = 201 from rfl] at c
    have n201 : n < 201 := Classical.byContradiction (fun y => by
      by_cases e : n ≤ 201
      · rw [if_pos e] at c
        omega
      · rw [if_neg e] at c
        omega)
    have e3 : I 3 3 = nI n := by
      rw [a3, if_pos (by omega)]
    rw [e3, znIc (by omega), nI_1]
    refine ⟨znIin n201 (by omega), q _ ⟨fun b b3 b4 b5 b6 => ?_, fun j hj => ?_, ?_, fun i i1 i2 => ?_⟩⟩
    · rw [← u2_row _ _ _ _ b3, ← u2_row _ _ _ _ b6, ← u2_row _ _ _ _ b5, ← u2_row _ _ _ _ b4]
      exact a1 b b3 b4 b5 b6
    · rw [u2_ne _ _ _ _ (by omega), u2_ne _ _ _ _ (by omega), u2_ne _ _ _ _ (by omega), u2_ne _ _ _ _ (by omega)]
      exact a2 j hj
    · rw [u2_same, if_pos (by omega)]
    · rcases (by omega : i < n ∨ i = n) with e | e
      · rw [u2_ne _ _ _ _ (by omega), u2_ne _ _ _ _ (by omega), u2_ne _ _ _ _ (by omega), u2_ne _ _ _ _ (by omega), u2_ne _ _ _ _ (by omega), u2_ne _ _ _ _ (by omega), u2_ne _ _ _ _ (by omega), u2_ne _ _ _ _ (by omega), u2_ne _ _ _ _ (by omega), u2_ne _ _ _ _ (by omega), u2_ne _ _ _ _ (by omega), u2_ne _ _ _ _ (by omega)]
        exact a4 i e i2
      · rw [e, u2_ne _ _ _ _ (by omega), u2_ne _ _ _ _ (by omega), u2_ne _ _ _ _ (by omega), u2_same, u2_ne _ _ _ _ (by omega), u2_ne _ _ _ _ (by omega), u2_same, u2_ne _ _ _ _ (by omega), u2_same]
        exact ⟨hk, fun y => h1 (hk.trans y), fun y => h2 (hk.trans y), hp⟩
theorem c_split {G : Gp} {Q : zPost} {S : zSh} {I : zFI} {L : zFL} {T : Nat → Int32} {tl : Nat} (hS : zStd S) (h : zTp I T tl) (q : ∀ J N, zSp I J T (N + 1) → zTK T N = 0 → (∀ i, i < N → ¬ zTK T i = 0) → Q none S J L) : ZC G mX2_split fX2_split lX2_split [zo G 3, zo G 1] S I L 0 0 Q := by
  have t800 : tl ≤ 800 := h.2.1.1
  have hT := h.2.1
  have main : ∀ (d p n : Nat) (J : zFI), p + d = tl → zE (zBl T) p = zps_ T n → n ≤ p → zSp I J T n → (∀ i, i < n → ¬ zTK T i = 0) → ZW G mX2_split fX2_split lX2_split 7 [zo G 3, zo G 1, .null, .int (nI p), .null, .null] [] S J L 0 0 Q := by
    intro d
    induction d using Nat.strongRecOn with
    | _ d ih =>
      intro p n J hp hq np sp no
      have tp : zTp J T tl := ⟨by rw [sp.1 1 (by omega) (by omega) (by omega) (by omega)]; exact h.1, hT, fun k hk => by rw [sp.1 2 (by omega) (by omega) (by omega) (by omega)]; exact h.2.2 k hk⟩
      have sz : p_X9_size J = nI tl := tp.1
      have bt : p_X9_byteAt J (nI p) = T p := by_at tp (by omega)
      by_cases e : p = tl
      · have te : T p = -1 := hT.2.2 p (by omega)
        have pq : zps_ T n = p := by
          rw [← hq]
          exact zE_stop (fun y => bl_no y te)
        have k0 : zTK T n = 0 := by
          unfold zTK
          rw [pq]
          exact kd_end te
        refine vX2_split_7 hS ⟨fun _ => ?_, fun c => absurd (show p_X9_size J ≤ nI p by rw [sz, e]; exact Int32.le_refl _) c⟩
        exact c_keep hS sp (by omega) k0.symm (fun y => absurd y (by decide)) (fun y => absurd y (by decide)) (by rw [sz, pq, e]) (fun K sk => ⟨rfl, rfl, q K n sk k0 no⟩)
      · have lt : p < tl := by omega
        have te : ¬ T p = -1 := fun y => by
          have := (hT.2.1 p lt).1
          rw [y] at this
          exact absurd this (by decide)
        -- behind a token
        have next : ∀ (r : Nat) (K : zFI), ¬ zBl T p → znx T p = r → p < r → r ≤ tl → zTK T n = zkd T p → (¬ zkd T p = 0) → zSp I K T (n + 1) → ZW G mX2_split fX2_split lX2_split 7 [zo G 3, zo G 1, .null, .int (nI r), .null, .null] [] S K L 0 0 Q := fun r K nb hr pr rt ek kz sk => by
          have pq : zps_ T n = p := by
            rw [← hq]
            exact zE_stop nb
          refine ih (tl - r) (by omega) r (n + 1) K (by omega) ?_ (by omega) sk (fun i hi => ?_)
          · show zE (zBl T) r = zE (zBl T) (znx T (zps_ T n))
            rw [pq, hr]
          · rcases (by omega : i < n ∨ i = n) with y | y
            · exact no i y
            · rw [y, ek]
              exact kz
        refine vX2_split_7 hS ⟨fun c => ?_, fun _ => ⟨fun nl => ⟨fun nd => ⟨fun b => ?_, fun nb => ⟨fun n59 => ?_, fun y59 => ?_⟩⟩, fun dg => ?_⟩, fun lt' => ?_⟩⟩
        · rw [sz, zle, znI (by omega), znI (by omega)] at c
          omega
        · rw [bt] at b
          rw [nI_1]
          exact ih (d - 1) (by omega) (p + 1) n J (by omega) (by rw [zE_skip (blank_iff.mp b)]; exact hq) (by omega) sp no
        · rw [bt] at nl nd nb n59
          have n1 : ¬ zLe T p := fun y => y nl
          have n2 : ¬ zDi T p := fun y => y nd
          have n3 : ¬ zBl T p := fun y => blank_iff.mpr y nb
          have pq : zps_ T n = p := by rw [← hq]; exact zE_stop n3
          have ek : zkd T p = 4 := by rw [kd_oth te n1 n2, if_neg n59]
          have ek' : zTK T n = 4 := by unfold zTK; rw [pq]; exact ek
          refine c_keep hS sp (by omega) ek'.symm (fun y => absurd y (by decide)) (fun y => absurd y (by decide)) (by rw [pq]) (fun K sk => ⟨rfl, rfl, ?_⟩)
          rw [nI_1]
          exact next (p + 1) K n3 (nx_oth te n1 n2) (by omega) (by omega) (ek'.trans ek.symm) (by rw [ek]; decide) sk
        · rw [bt] at nl nd nb y59
          have n1 : ¬ zLe T p := fun y => y nl
          have n2 : ¬ zDi T p := fun y => y nd
          have n3 : ¬ zBl T p := fun y => blank_iff.mpr y nb
          have pq : zps_ T n = p := by rw [← hq]; exact zE_stop n3
          have ek : zkd T p = 3 := by rw [kd_oth te n1 n2, if_pos y59]
          have ek' : zTK T n = 3 := by unfold zTK; rw [pq]; exact ek
          refine c_keep hS sp (by omega) ek'.symm (fun y => absurd y (by decide)) (fun y => absurd y (by decide)) (by rw [pq]) (fun K sk => ⟨rfl, rfl, ?_⟩)
          rw [nI_1]
          exact next (p + 1) K n3 (nx_oth te n1 n2) (by omega) (by omega) (ek'.trans ek.symm) (by rw [ek]; decide) sk
        · rw [bt] at dg
          have hd : zDi T p := dg
          have n3 : ¬ zBl T p := di_bl hd
          have pq : zps_ T n = p := by rw [← hq]; exact zE_stop n3
          obtain ⟨b1, b2, b3, b4⟩ := zE_bound hT (fun k => di_no (T := T) (k := k)) (show p ≤ tl by omega)
          have pr : p < zE (zDi T) p := Classical.byContradiction (fun y => b3 (by rw [show zE (zDi T) p = p by omega]; exact hd))
          have er : (nI (zE (zDi T) p) - nI p).toInt = ((zE (zDi T) p : Nat) : Int) - (p : Int) := by
            rw [zsub (by rw [znI (by omega), znI (by omega)]; omega) (by rw [znI (by omega), znI (by omega)]; omega), znI (by omega), znI (by omega)]
          refine c_endD hS tp (by omega) hd ⟨_, rfl, rfl, fun le => ?_, fun gt => ?_⟩
          · rw [zle, er, show (2 : Int32).toInt = 2 from rfl] at le
            have ek : zkd T p = 2 := by rw [kd_dig hd, if_neg (by omega)]
            have ek' : zTK T n = 2 := by unfold zTK; rw [pq]; exact ek
            refine c_numberAt hS tp pr b2 (fun x hx => ⟨_, rfl, rfl, c_keep hS sp (by omega) ek'.symm (fun y => absurd y (by decide)) (fun _ => ?_) (by rw [pq]) (fun K sk => ⟨rfl, rfl, ?_⟩)⟩)
            · unfold zTV
              rw [pq, vu_dig hd]
              exact hx (by omega)
            · exact next _ K n3 (nx_dig hd) pr b2 (ek'.trans ek.symm) (by rw [ek]; decide) sk
          · rw [zle, er, show (2 : Int32).toInt = 2 from rfl] at gt
            have ek : zkd T p = 4 := by rw [kd_dig hd, if_pos (by omega)]
            have ek' : zTK T n = 4 := by unfold zTK; rw [pq]; exact ek
            refine c_numberAt hS tp pr b2 (fun x hx => ⟨_, rfl, rfl, c_keep hS sp (by omega) ek'.symm (fun y => absurd y (by decide)) (fun y => absurd y (by decide)) (by rw [pq]) (fun K sk => ⟨rfl, rfl, ?_⟩)⟩)
            exact next _ K n3 (nx_dig hd) pr b2 (ek'.trans ek.symm) (by rw [ek]; decide) sk
        · rw [bt] at lt'
          have hl : zLe T p := lt'
          have n3 : ¬ zBl T p := le_bl hl
          have pq : zps_ T n = p := by rw [← hq]; exact zE_stop n3
          obtain ⟨b1, b2, b3, b4⟩ := zE_bound hT (fun k => le_no (T := T) (k := k)) (show p ≤ tl by omega)
          have pr : p < zE (zLe T) p := Classical.byContradiction (fun y => b3 (by rw [show zE (zLe T) p = p by omega]; exact hl))
          refine c_endL hS tp (by omega) hl ⟨_, rfl, rfl, c_wordNumber hS tp b1 b2 (fun x hx => ⟨_, rfl, rfl, fun nx => ?_, fun ex => ?_⟩)⟩
          · rcases hx with ⟨y, -⟩ | ⟨k, k1, k2, k3⟩
            · exact absurd y nx
            · have ek : zkd T p = 1 := by
                rw [kd_let hl, if_neg (by rw [k2]; exact nI_neg1 (by omega))]
              have ek' : zTK T n = 1 := by unfold zTK; rw [pq]; exact ek
              refine c_keep hS sp (by omega) ek'.symm (fun _ => ?_) (fun y => absurd y (by decide)) (by rw [pq]) (fun K sk => ⟨rfl, rfl, ?_⟩)
              · unfold zTV
                rw [pq, vu_let hl, k2, znIc (by omega)]
                exact k3
              · exact next _ K n3 (nx_let hl) pr b2 (ek'.trans ek.symm) (by rw [ek]; decide) sk
          · rcases hx with ⟨-, y⟩ | ⟨k, k1, k2, k3⟩
            · have ek : zkd T p = 4 := by rw [kd_let hl, if_pos y]
              have ek' : zTK T n = 4 := by unfold zTK; rw [pq]; exact ek
              refine c_keep hS sp (by omega) ek'.symm (fun y => absurd y (by decide)) (fun y => absurd y (by decide)) (by rw [pq]) (fun K sk => ⟨rfl, rfl, ?_⟩)
              exact next _ K n3 (nx_let hl) pr b2 (ek'.trans ek.symm) (by rw [ek]; decide) sk
            · have p18 : ∀ k : Fin 18, zPs k.1 < 18 := by decide +kernel
              have : zPs k < 18 := p18 ⟨k, k1⟩
              rw [k3] at ex
              exact absurd ex (nI_neg1 (by omega))
  refine ZC.of' (vX2_split_0 hS (main tl 0 0 _ (by omega) rfl (Nat.le_refl _) ⟨fun b b3 _ _ _ => (u2_row _ _ _ _ b3).symm, fun k hk => u2_ne _ _ _ _ (fun y => hk y.2), u2_same _ _ _ _, fun i hi => absurd hi (Nat.not_lt_zero _)⟩ (fun i hi => absurd hi (Nat.not_lt_zero _)))) rfl (Nat.le_of_ble_eq_true rfl) rfl
