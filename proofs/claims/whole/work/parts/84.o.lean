theorem zx48 (c k : Nat) : (48 * nI c + nI k : Int32) = nI (48 * c + k) := by
  rw [show (48 : Int32) = nI 48 from rfl, pk_mul, nI_add]
theorem nI_neg1 {k : Nat} (h : k < 2147483648) : ¬ nI k = -1 := fun q => by
  rw [zeq, znI h, show (-1 : Int32).toInt = -1 from rfl] at q
  omega
theorem bJ_more {E : Nat → Nat → Int → Prop} {π : Nat → Int} {z : Nat} {d0 d : Nat → Int} {P P' : Nat → Nat → Int → Prop} {nx : Nat → Nat} {mv : Bool} (hE : bOk E π) (h : bJ E z d0 P d nx mv) (h0 : ∀ u, u < 50 → d0 u ≤ 1000000) (hP : ∀ a b k, P' a b k → P a b k ∨ (E a b k ∧ (d b = 1000000 ∨ d a ≤ d b + k))) : bJ E z d0 P' d nx mv := by
  obtain ⟨h1, h2, h3, h4⟩ := h
  refine ⟨h1, h2, fun a b k hp hb => ?_, h4⟩
  rcases hP a b k hp with q | ⟨q1, q2⟩
  · exact h3 a b k q hb
  · have hv := (hE _ _ _ q1).2.1
    have a1 := h2 b hv
    have a2 := h0 b hv
    rcases q2 with q | q <;> omega
/-- the model's tenons, holes and costs, and what fits there -/
def mX (I : zFI) (nt nh : Nat) (tn hl : Nat → Nat) (F : Nat → Nat → Prop) (w : Nat → Nat → Int) : Prop :=
  I 84 42 = nI nt ∧ nt ≤ 48 ∧ I 84 43 = nI nh ∧ nh ≤ 48 ∧ (∀ i, i < nt → tn i < 48) ∧ (∀ k, k < nh → hl k < 48) ∧ (∀ i i', i < i' → i' < nt → tn i < tn i') ∧ (∀ k k', k < k' → k' < nh → hl k < hl k') ∧
  (∀ i k, i < nt → k < nh → (F (tn i) (hl k) ↔ (¬ I 110 (48 * i + k) = -1 ∧ I 114 i = 0 ∧ I 115 k = 0 ∧ ¬ (I 84 52 = nI i ∧ I 84 53 = nI k)))) ∧
  (∀ i k, i < nt → k < nh → ¬ I 110 (48 * i + k) = -1 → (I 110 (48 * i + k)).toInt = w (tn i) (hl k) ∧ 0 ≤ w (tn i) (hl k) ∧ w (tn i) (hl k) ≤ 3) ∧ (∀ t h, F t h → ∃ i k, i < nt ∧ k < nh ∧ tn i = t ∧ hl k = h) ∧ jOk F w
def mR (I : zFI) (nt nh : Nat) (tn hl m : Nat → Nat) : Prop :=
  (∀ i, i < nt → (I 111 i = -1 ∧ m (tn i) = 50) ∨ ∃ k, k < nh ∧ I 111 i = nI k ∧ m (tn i) = hl k) ∧ (∀ x, x < 48 → (∀ i, i < nt → ¬ x = tn i) → m x = 50) ∧ ∀ k, k < nh → (I 112 k = -1 ∧ jFr m (hl k)) ∨ ∃ i, i < nt ∧ I 112 k = nI i ∧ m (tn i) = hl k
theorem inj_of {f : Nat → Nat} {n : Nat} (h : ∀ i i', i < i' → i' < n → f i < f i') {i i' : Nat} (hi : i < n) (hi' : i' < n) (e : f i = f i') : i = i' := by
  rcases Nat.lt_trichotomy i i' with c | c | c
  · have := h i i' c hi'
    omega
  · exact c
  · have := h i' i c hi
    omega
/-- the distances of the model -/
def mB (I : zFI) (nt nh : Nat) (tn hl m : Nat → Nat) (w : Nat → Nat → Int) (d : Nat → Int) (hf : Nat → Nat) : Prop :=
  d 48 = 0 ∧ (∀ k, k < nh → d (hl k) = (I 117 k).toInt) ∧ (∀ x, ¬ x = 48 → (∀ k, k < nh → ¬ x = hl k) → d x = 1000000) ∧ (∀ k, k < nh → ¬ d (hl k) = 1000000 → ∃ i, i < nt ∧ I 118 k = nI i ∧ hf (hl k) = tn i) ∧ ∀ i, i < nt → I 114 i = 0 → (I 116 i).toInt = dT w m d (tn i)
/-- the edges by what was gone through -/
def mP (F : Nat → Nat → Prop) (w : Nat → Nat → Int) (m tn hl : Nat → Nat) (nt nh i k : Nat) (a b : Nat) (c : Int) : Prop :=
  ∃ i' k', (i' < i ∨ (i' = i ∧ k' < k)) ∧ i' < nt ∧ k' < nh ∧ hl k' = a ∧ F (tn i') a ∧ ¬ m (tn i') = a ∧ b = (if m (tn i') = 50 then 48 else m (tn i')) ∧ c = (if m (tn i') = 50 then w (tn i') a else w (tn i') a - w (tn i') (m (tn i')))
theorem mP_E {F : Nat → Nat → Prop} {w : Nat → Nat → Int} {m tn hl : Nat → Nat} {nt nh i k a b : Nat} {c : Int} (h : mP F w m tn hl nt nh i k a b c) : cE F w m a b c := by
  obtain ⟨i', k', -, h1, h2, h3, h4, h5, h6, h7⟩ := h
  by_cases q : m (tn i') = 50
  · rw [if_pos q] at h6 h7
    exact Or.inr ⟨h6, _, h4, q, h7⟩
  · rw [if_neg q] at h6 h7
    exact Or.inl ⟨_, h4, h5, h6.symm, by rw [h6]; exact q, by rw [h6]; exact h7⟩
theorem E_mP {F : Nat → Nat → Prop} {w : Nat → Nat → Int} {m tn hl : Nat → Nat} {nt nh a b : Nat} {c : Int} (hok : jOk F w) (hx : ∀ t h, F t h → ∃ i k, i < nt ∧ k < nh ∧ tn i = t ∧ hl k = h) (h : cE F w m a b c) : mP F w m tn hl nt nh nt 0 a b c := by
  rcases h with ⟨t, a1, a2, a3, a4, a5⟩ | ⟨a1, t, a2, a3, a4⟩
  · obtain ⟨i, k, i1, i2, i3, i4⟩ := hx _ _ a1
    refine ⟨i, k, Or.inl i1, i1, i2, i4, by rw [i3]; exact a1, by rw [i3]; exact a2, ?_, ?_⟩
    · rw [i3, if_neg (by rw [a3]; exact a4)]
      exact a3.symm
    · rw [i3, if_neg (by rw [a3]; exact a4), a3]
      exact a5
  · obtain ⟨i, k, i1, i2, i3, i4⟩ := hx _ _ a2
    have := (hok _ _ a2).2.1
    refine ⟨i, k, Or.inl i1, i1, i2, i4, by rw [i3]; exact a2, by rw [i3, a3]; omega, ?_, ?_⟩
    · rw [i3, if_pos a3]
      exact a1
    · rw [i3, if_pos a3]
      exact a4
theorem bS_start_P {F : Nat → Nat → Prop} {w : Nat → Nat → Int} {m tn hl nx : Nat → Nat} {nt nh : Nat} {d : Nat → Int} (h : bInv (cE F w m) 48 d nx) : bJ (cE F w m) 48 d (mP F w m tn hl nt nh 0 0) d nx false := by
  refine ⟨h, fun _ _ => Int.le_refl _, ?_, fun _ _ _ => rfl⟩
  rintro u v c ⟨i', k', y1, -⟩
  omega
theorem m_findFars {G : Gp} {Q : zPost} {S : zSh} {I : zFI} {L : zFL} {nt nh : Nat} {tn hl m : Nat → Nat} {F : Nat → Nat → Prop} {w : Nat → Nat → Int} {π : Nat → Int} (hS : zStd S) (hx : mX I nt nh tn hl F w) (hm : jVal F m) (hr : mR I nt nh tn hl m) (hπ : jFe F w jAll m π)
    (h : ∀ I' d nx hf, (∀ b, b ≠ 116 → b ≠ 117 → b ≠ 118 → I' b = I b) → bD (cE F w m) 48 d nx → hF F w m d nx hf → mB I' nt nh tn hl m w d hf → Q none S I' L) : ZC G mX12_findFars fX12_findFars lX12_findFars [zo G 84] S I L 0 0 Q := by
  obtain ⟨x1, x2, x3, x4, x5, x6, x7, x8, x9, x10, x11, hok⟩ := hx
  obtain ⟨r1, r2, r3⟩ := hr
  have hE := cE_ok hok hm hπ
  have h49 : ∀ k, k < nh → ¬ hl k = 48 := fun k hk => by have := x6 k hk; omega
  have ht : ∀ i k, i < nt → k < nh → (I 111 i = nI k ↔ m (tn i) = hl k) := fun i k hi hk => by
    rcases r1 i hi with ⟨a1, a2⟩ | ⟨k', a1, a2, a3⟩
    · rw [a1, a2]
      exact ⟨fun q => absurd q.symm (nI_neg1 (by omega)), fun q => by have := x6 k hk; omega⟩
    · rw [a2, a3]
      constructor
      · intro q
        rw [(nI_eq (by omega) (by omega)).mp q]
      · intro q
        rw [inj_of x8 a1 hk q]
  -- the state between steps
  have step : ∀ (J : zFI) (d0 d : Nat → Int) (nx hf : Nat → Nat) (f : Bool) (i k : Nat), i < nt → k < nh → (∀ b, b ≠ 116 → b ≠ 117 → b ≠ 118 → J b = I b) → (∀ u, u < 50 → d0 u ≤ 1000000) → bJ (cE F w m) 48 d0 (mP F w m tn hl nt nh i k) d nx f → (f = true → ∃ k, k < nh ∧ d (hl k) < d0 (hl k)) → hF F w m d nx hf → mB J nt nh tn hl m w d hf → I 114 i = 0 → ¬ J 116 i = 1000000 →
      (∀ (J' : zFI) (d' : Nat → Int) (nx' hf' : Nat → Nat) (f' : Bool), (∀ b, b ≠ 116 → b ≠ 117 → b ≠ 118 → J' b = I b) → bJ (cE F w m) 48 d0 (mP F w m tn hl nt nh i (k + 1)) d' nx' f' → (f' = true → ∃ k, k < nh ∧ d' (hl k) < d0 (hl k)) → hF F w m d' nx' hf' → mB J' nt nh tn hl m w d' hf' → ¬ J' 116 i = 1000000 → ZW G mX12_findFars fX12_findFars lX12_findFars 117 [zo G 84, .int (bI f'), .int (nI i), .int (nI (k + 1)), .null, .null] [] S J' L 0 0 Q) →
      ZW G mX12_findFars fX12_findFars lX12_findFars 117 [zo G 84, .int (bI f), .int (nI i), .int (nI k), .null, .null] [] S J L 0 0 Q := by
    intro J d0 d nx hf f i k hi hk j1 hd0 hJ hfl hh hB h114 h116 nxt
    obtain ⟨b1, b2, b3, b4, b5⟩ := hB
    have e13 : J 84 = I 84 := j1 84 (by decide) (by decide) (by decide)
    have e110 : J 110 = I 110 := j1 110 (by decide) (by decide) (by decide)
    have e111 : J 111 = I 111 := j1 111 (by decide) (by decide) (by decide)
    have e112 : J 112 = I 112 := j1 112 (by decide) (by decide) (by decide)
    have e114 : J 114 = I 114 := j1 114 (by decide) (by decide) (by decide)
    have e115 : J 115 = I 115 := j1 115 (by decide) (by decide) (by decide)
    have bB : mB J nt nh tn hl m w d hf := ⟨b1, b2, b3, b4, b5⟩
    have t48 := x5 i hi
    have h48 := x6 k hk
    have dti : (J 116 i).toInt = dT w m d (tn i) := b5 i hi (by rw [e114]; exact h114)
    have dtf : ¬ dT w m d (tn i) = 1000000 := fun q => h116 (by rw [zeq, dti, q]; rfl)
    -- no edge here
    have skip : ¬ (F (tn i) (hl k) ∧ ¬ m (tn i) = hl k) → ZW G mX12_findFars fX12_findFars lX12_findFars 117 [zo G 84, .int (bI f), .int (nI i), .int (nI (k + 1)), .null, .null] [] S J L 0 0 Q := fun hno => by
      refine nxt J d nx hf f j1 (bJ_more hE hJ hd0 ?_) hfl hh bB h116
      rintro a b c ⟨i', k', y1, y2, y3, y4, y5, y6, y7⟩
      by_cases q : i' = i ∧ k' = k
      · rw [← y4, q.1, q.2] at y5 y6
        exact absurd ⟨y5, y6⟩ hno
      · exact Or.inl ⟨i', k', by omega, y2, y3, y4, y5, y6, y7⟩
    -- the edge, with nothing gained
    have keep : F (tn i) (hl k) → ¬ m (tn i) = hl k → d (hl k) ≤ dT w m d (tn i) + w (tn i) (hl k) → ZW G mX12_findFars fX12_findFars lX12_findFars 117 [zo G 84, .int (bI f), .int (nI i), .int (nI (k + 1)), .null, .null] [] S J L 0 0 Q := fun f1 f2 f3 => by
      refine nxt J d nx hf f j1 (bJ_more hE hJ hd0 ?_) hfl hh bB h116
      rintro a b c y
      have ye := mP_E y
      obtain ⟨i', k', y1, y2, y3, y4, y5, y6, y7, y8⟩ := y
      by_cases q : i' = i ∧ k' = k
      · refine Or.inr ⟨ye, ?_⟩
        rw [q.1] at y7 y8
        rw [q.2] at y4
        rw [← y4] at y8 ⊢
        unfold dT at f3 dtf
        by_cases z : m (tn i) = 50
        · rw [if_pos z] at y7 y8 f3
          rw [y7, b1]
          exact Or.inr (by omega)
        · rw [if_neg z] at y7 y8 f3 dtf
          by_cases z2 : d (m (tn i)) = 1000000
          · rw [if_pos z2] at dtf
            exact absurd rfl dtf
          · rw [if_neg z2] at f3
            rw [y7]
            exact Or.inr (by omega)
      · exact Or.inl ⟨i', k', by omega, y2, y3, y4, y5, y6, y7, y8⟩
    -- the edge, nearer
    have move : F (tn i) (hl k) → ¬ m (tn i) = hl k → dT w m d (tn i) + w (tn i) (hl k) < d (hl k) → ∀ (K : zFI), (∀ b, b ≠ 116 → b ≠ 117 → b ≠ 118 → K b = I b) → (K 117 k).toInt = dT w m d (tn i) + w (tn i) (hl k) → (∀ k', k' ≠ k → K 117 k' = J 117 k') → K 118 k = nI i → (∀ k', k' ≠ k → K 118 k' = J 118 k') → (∀ i', i' < nt → m (tn i') = hl k → (K 116 i').toInt = dT w m d (tn i) + w (tn i) (hl k) - w (tn i') (hl k)) → (∀ i', i' < nt → ¬ m (tn i') = hl k → K 116 i' = J 116 i') → ZW G mX12_findFars fX12_findFars lX12_findFars 117 [zo G 84, .int 1, .int (nI i), .int (nI (k + 1)), .null, .null] [] S K L 0 0 Q := fun f1 f2 f3 K k1 k2 k3 k4 k5 k6 k7 => by
      have le := hJ.1.2.1 (hl k) (by omega)
      have cost : ∃ l c, cE F w m (hl k) l c ∧ ¬ d l = 1000000 ∧ d l + c = dT w m d (tn i) + w (tn i) (hl k) ∧ l = (if m (tn i) = 50 then 48 else m (tn i)) := by
        unfold dT at dtf ⊢
        by_cases z : m (tn i) = 50
        · rw [if_pos z, if_pos z]
          exact ⟨48, _, Or.inr ⟨rfl, _, f1, z, rfl⟩, by rw [b1]; omega, by rw [b1], rfl⟩
        · rw [if_neg z] at dtf ⊢
          rw [if_neg z]
          by_cases z2 : d (m (tn i)) = 1000000
          · rw [if_pos z2] at dtf
            exact absurd rfl dtf
          · rw [if_neg z2]
            exact ⟨m (tn i), _, Or.inl ⟨_, f1, f2, rfl, z, rfl⟩, z2, by omega, rfl⟩
      obtain ⟨l, c, c1, c2, c3, c4⟩ := cost
      have newd : ∀ x, (if x = hl k then dT w m d (tn i) + w (tn i) (hl k) else d x) ≤ d x := fun x => by
        by_cases q : x = hl k
        · rw [if_pos q, q]
          omega
        · rw [if_neg q]
          exact Int.le_refl _
      have lo : ∀ u, u < 50 → -147 ≤ d u := fun u hu => b_low hE hJ.1 hu
      have dTg : ∀ (y : Int) (t : Nat), ¬ m t = hl k → dT w m (fun x => if x = hl k then y else d x) t = dT w m d t := fun y t q => by
        show (if m t = 50 then (0 : Int) else if (if m t = hl k then y else d (m t)) = 1000000 then 1000000 else (if m t = hl k then y else d (m t)) - w t (m t)) = (if m t = 50 then 0 else if d (m t) = 1000000 then 1000000 else d (m t) - w t (m t))
        rw [if_neg q]
      have dTn : ∀ t, t < 48 → ¬ m t = hl k → dT w m (fun x => if x = hl k then dT w m d (tn i) + w (tn i) (hl k) else d x) t = dT w m d t := fun t _ q => dTg _ t q
      have fin : ¬ dT w m d (tn i) + w (tn i) (hl k) = 1000000 := by omega
      have dTk : ∀ t, m t = hl k → dT w m (fun x => if x = hl k then dT w m d (tn i) + w (tn i) (hl k) else d x) t = dT w m d (tn i) + w (tn i) (hl k) - w t (hl k) := fun t q => by
        show (if m t = 50 then (0 : Int) else if (if m t = hl k then dT w m d (tn i) + w (tn i) (hl k) else d (m t)) = 1000000 then 1000000 else (if m t = hl k then dT w m d (tn i) + w (tn i) (hl k) else d (m t)) - w t (m t)) = _
        rw [q, if_neg (by omega), if_pos rfl, if_neg fin]
      have J2 := bJ_move (P' := mP F w m tn hl nt nh i (k + 1)) (d' := fun x => if x = hl k then dT w m d (tn i) + w (tn i) (hl k) else d x) (nx' := fun x => if x = hl k then l else nx x) hE hJ c1 c2 (by omega) (by rw [c3]; exact if_pos rfl) (fun x hx => if_neg hx) (if_pos rfl) (fun x hx => if_neg hx) ?_
      · refine nxt K _ _ (fun x => if x = hl k then tn i else hf x) true k1 J2 (fun _ => ⟨k, hk, ?_⟩) ?_ ⟨?_, ?_, ?_, ?_, ?_⟩ ?_
        · show (if hl k = hl k then dT w m d (tn i) + w (tn i) (hl k) else d (hl k)) < d0 (hl k)
          rw [if_pos rfl]
          have := hJ.2.1 (hl k) (by omega)
          omega
        · intro x hx hdx
          by_cases q : x = hl k
          · rw [q]
            show F (if hl k = hl k then tn i else hf (hl k)) (hl k) ∧ ¬ m (if hl k = hl k then tn i else hf (hl k)) = hl k ∧ (if hl k = hl k then l else nx (hl k)) = (if m (if hl k = hl k then tn i else hf (hl k)) = 50 then 48 else m (if hl k = hl k then tn i else hf (hl k))) ∧ ¬ dT w m (fun x => if x = hl k then dT w m d (tn i) + w (tn i) (hl k) else d x) (if hl k = hl k then tn i else hf (hl k)) = 1000000 ∧ dT w m (fun x => if x = hl k then dT w m d (tn i) + w (tn i) (hl k) else d x) (if hl k = hl k then tn i else hf (hl k)) + w (if hl k = hl k then tn i else hf (hl k)) (hl k) ≤ (if hl k = hl k then dT w m d (tn i) + w (tn i) (hl k) else d (hl k))
            rw [if_pos rfl, if_pos rfl, if_pos rfl, dTn _ t48 f2]
            exact ⟨f1, f2, c4, dtf, Int.le_refl _⟩
          · have hdx : ¬ d x = 1000000 := by
              have hdx : ¬ (if x = hl k then dT w m d (tn i) + w (tn i) (hl k) else d x) = 1000000 := hdx
              rw [if_neg q] at hdx
              exact hdx
            obtain ⟨y1, y2, y3, y4, y5⟩ := hh x hx hdx
            show F (if x = hl k then tn i else hf x) x ∧ ¬ m (if x = hl k then tn i else hf x) = x ∧ (if x = hl k then l else nx x) = (if m (if x = hl k then tn i else hf x) = 50 then 48 else m (if x = hl k then tn i else hf x)) ∧ ¬ dT w m (fun x => if x = hl k then dT w m d (tn i) + w (tn i) (hl k) else d x) (if x = hl k then tn i else hf x) = 1000000 ∧ dT w m (fun x => if x = hl k then dT w m d (tn i) + w (tn i) (hl k) else d x) (if x = hl k then tn i else hf x) + w (if x = hl k then tn i else hf x) x ≤ (if x = hl k then dT w m d (tn i) + w (tn i) (hl k) else d x)
            rw [if_neg q, if_neg q, if_neg q]
            refine ⟨y1, y2, y3, ?_⟩
            have b := hok _ _ y1
            by_cases z : m (hf x) = hl k
            · have ff := (hm.1 _ b.1).resolve_left (by omega)
              rw [z] at ff
              have b2 := hok _ _ ff
              rw [dTk _ z]
              have old : dT w m d (hf x) = if d (hl k) = 1000000 then 1000000 else d (hl k) - w (hf x) (hl k) := by
                unfold dT
                rw [z, if_neg (by omega)]
              rw [old] at y4 y5
              by_cases z2 : d (hl k) = 1000000
              · rw [if_pos z2] at y4
                exact absurd rfl y4
              · rw [if_neg z2] at y5
                omega
            · rw [dTn _ b.1 z]
              exact ⟨y4, y5⟩
        · show (if 48 = hl k then dT w m d (tn i) + w (tn i) (hl k) else d 48) = 0
          rw [if_neg (by omega), b1]
        · intro k' hk'
          show (if hl k' = hl k then dT w m d (tn i) + w (tn i) (hl k) else d (hl k')) = _
          by_cases q : k' = k
          · rw [q, if_pos rfl, k2]
          · rw [if_neg (fun z => q (inj_of x8 hk' hk z)), k3 k' q, b2 k' hk']
        · intro x hx1 hx2
          show (if x = hl k then dT w m d (tn i) + w (tn i) (hl k) else d x) = 1000000
          rw [if_neg (hx2 k hk)]
          exact b3 x hx1 hx2
        · intro k' hk' hd'
          show ∃ i', i' < nt ∧ K 118 k' = nI i' ∧ (if hl k' = hl k then tn i else hf (hl k')) = tn i'
          by_cases q : k' = k
          · rw [q, if_pos rfl]
            exact ⟨i, hi, k4, rfl⟩
          · have ne : ¬ hl k' = hl k := fun z => q (inj_of x8 hk' hk z)
            have hd' : ¬ (if hl k' = hl k then dT w m d (tn i) + w (tn i) (hl k) else d (hl k')) = 1000000 := hd'
            rw [if_neg ne] at hd' ⊢
            rw [k5 k' q]
            exact b4 k' hk' hd'
        · intro i' hi' h14
          by_cases q : m (tn i') = hl k
          · rw [k6 i' hi' q, dTk _ q]
          · rw [k7 i' hi' q, dTn _ (x5 i' hi') q]
            exact b5 i' hi' (by rw [e114, ← k1 114 (by decide) (by decide) (by decide)]; exact h14)
        · rw [k7 i hi f2]
          exact h116
      · rintro a b c' ⟨i', k', y1, y2, y3, y4, y5, y6, y7, y8⟩
        by_cases q : i' = i ∧ k' = k
        · rw [q.1] at y7 y8
          rw [q.2] at y4
          refine Or.inr ⟨y4.symm, by rw [y7, c4], ?_⟩
          rw [← y4] at y8
          rw [y8]
          unfold dT at c3
          by_cases z : m (tn i) = 50
          · rw [if_pos z] at c3 c4 ⊢
            rw [c4, b1] at c3
            omega
          · rw [if_neg z] at c3 c4 ⊢
            by_cases z2 : d (m (tn i)) = 1000000
            · rw [c4] at c2
              exact absurd z2 c2
            · rw [if_neg z2, c4] at c3
              omega
        · exact Or.inl ⟨i', k', by omega, y2, y3, y4, y5, y6, y7, y8⟩
    have z48 : (48 * nI i + nI k : Int32) = nI (48 * i + k) := zx48 i k
    have kc : (nI k).toNatClampNeg = k := znIc (by omega)
    have ic : (nI i).toNatClampNeg = i := znIc (by omega)
    have F9 := x9 i k hi hk
    have m11 := ht i k hi hk
    have dk := b2 k hk
    have lo := b_low hE hJ.1 (u := hl k) (by omega)
    have up := hJ.1.2.1 (hl k) (by omega)
    have dtlo : -150 ≤ dT w m d (tn i) ∧ dT w m d (tn i) ≤ 1000000 := by
      unfold dT
      rcases hm.1 (tn i) t48 with q | q
      · rw [if_pos q]
        omega
      · have b := hok _ _ q
        have l1 := b_low hE hJ.1 (u := m (tn i)) (by omega)
        have l2 := hJ.1.2.1 (m (tn i)) (by omega)
        rw [if_neg (by omega)]
        split <;> omega
    -- the tail of the tree: all is tested
    have tail : F (tn i) (hl k) → ¬ m (tn i) = hl k → ¬ I 110 (48 * i + k) = -1 →
        (((J 116 i + I 110 (48 * i + k)) < J 117 k → ((I 112 k = -1 → ZW G mX12_findFars fX12_findFars lX12_findFars 117 [zo G 84, .int 1, .int (nI i), .int (nI (k + 1)), .null, .null] [] S (u2 (u2 J 117 k (J 116 i + I 110 (48 * i + k))) 118 k (nI i)) L 0 0 Q) ∧ (¬ I 112 k = -1 → vp_in ((48 * I 112 k) + nI k) 2304 ∧ vp_in (I 112 k) 48 ∧ (((J 116 (I 112 k).toNatClampNeg) ≤ (((u2 J 117 k (J 116 i + I 110 (48 * i + k))) 117 k) - (I 110 ((48 * I 112 k) + nI k).toNatClampNeg)) → ZW G mX12_findFars fX12_findFars lX12_findFars 117 [zo G 84, .int 1, .int (nI i), .int (nI (k + 1)), .null, .null] [] S (u2 (u2 J 117 k (J 116 i + I 110 (48 * i + k))) 118 k (nI i)) L 0 0 Q) ∧ (¬ (J 116 (I 112 k).toNatClampNeg) ≤ (((u2 J 117 k (J 116 i + I 110 (48 * i + k))) 117 k) - (I 110 ((48 * I 112 k) + nI k).toNatClampNeg)) → ZW G mX12_findFars fX12_findFars lX12_findFars 117 [zo G 84, .int 1, .int (nI i), .int (nI (k + 1)), .null, .null] [] S (u2 (u2 (u2 J 117 k (J 116 i + I 110 (48 * i + k))) 118 k (nI i)) 116 (I 112 k).toNatClampNeg (((u2 J 117 k (J 116 i + I 110 (48 * i + k))) 117 k) - (I 110 ((48 * I 112 k) + nI k).toNatClampNeg))) L 0 0 Q))))) ∧
          (¬ (J 116 i + I 110 (48 * i + k)) < J 117 k → ZW G mX12_findFars fX12_findFars lX12_findFars 117 [zo G 84, .int (bI f), .int (nI i), .int (nI (k + 1)), .null, .null] [] S J L 0 0 Q)) := fun f1 f2 f3 => by
      obtain ⟨w1, w2, w3⟩ := x10 i k hi hk f3
      have es : (J 116 i + I 110 (48 * i + k)).toInt = dT w m d (tn i) + w (tn i) (hl k) := by rw [zadd (by omega) (by omega), dti, w1]
      refine ⟨fun c => ?_, fun c => ?_⟩
      · have c := zlt.mp c
        rw [es, ← dk] at c
        have r3' := r3 k hk
        have rowsK : ∀ b, b ≠ 116 → b ≠ 117 → b ≠ 118 → (u2 (u2 J 117 k (J 116 i + I 110 (48 * i + k))) 118 k (nI i)) b = I b := fun b a1 a2 a3 => by
          rw [← u2_row _ _ _ _ a3, ← u2_row _ _ _ _ a2]
          exact j1 b a1 a2 a3
        have K117 : (u2 (u2 J 117 k (J 116 i + I 110 (48 * i + k))) 118 k (nI i)) 117 k = J 116 i + I 110 (48 * i + k) := by rw [u2_ne _ _ _ _ (by omega), u2_same]
        refine ⟨fun e => ?_, fun e => ?_⟩
        · have fr : jFr m (hl k) := by
            rcases r3' with q | ⟨i', q1, q2, -⟩
            · exact q.2
            · rw [q2] at e
              exact absurd e (nI_neg1 (by omega))
          refine move f1 f2 c _ rowsK (by rw [K117, es]) (fun k' hk' => by rw [u2_ne _ _ _ _ (by omega), u2_ne _ _ _ _ (by omega)]) (u2_same _ _ _ _) (fun k' hk' => by rw [u2_ne _ _ _ _ (by omega), u2_ne _ _ _ _ (by omega)]) (fun i' hi' q => absurd q (fr _ (x5 i' hi'))) (fun i' hi' _ => by rw [u2_ne _ _ _ _ (by omega), u2_ne _ _ _ _ (by omega)])
        · obtain ⟨o, o1, o2, o3⟩ : ∃ o, o < nt ∧ I 112 k = nI o ∧ m (tn o) = hl k := by
            rcases r3' with q | q
            · exact absurd q.1 e
            · exact q
          have fo := (hm.1 _ (x5 o o1)).resolve_left (by omega)
          rw [o3] at fo
          have F9o := (x9 o k o1 hk).mp fo
          obtain ⟨v1, v2, v3⟩ := x10 o k o1 hk F9o.1
          have dto := b5 o o1 (by rw [e114]; exact F9o.2.1)
          have K0 : u2 J 117 k (J 116 i + I 110 (48 * i + k)) 117 k = J 116 i + I 110 (48 * i + k) := u2_same _ _ _ _
          rw [o2, znIc (by omega), zx48, znIc (by omega), K0]
          have ev : (J 116 i + I 110 (48 * i + k) - I 110 (48 * o + k)).toInt = dT w m d (tn i) + w (tn i) (hl k) - w (tn o) (hl k) := by rw [zsub (by omega) (by omega), es, v1]
          refine ⟨znIin (by omega) (by decide), znIin (by omega) (by decide), fun c2 => ?_, fun _ => ?_⟩
          · exfalso
            have c2 := zle.mp c2
            rw [dto, ev] at c2
            unfold dT at c2
            rw [o3, if_neg (by omega)] at c2
            have c3 : dT w m d (tn i) + w (tn i) (hl k) < d (hl k) := c
            unfold dT at c3
            split at c2 <;> omega
          · refine move f1 f2 c _ (fun b a1 a2 a3 => by rw [← u2_row _ _ _ _ a1]; exact rowsK b a1 a2 a3) (by rw [u2_ne _ _ _ _ (by omega), K117, es]) (fun k' hk' => by rw [u2_ne _ _ _ _ (by omega), u2_ne _ _ _ _ (by omega), u2_ne _ _ _ _ (by omega)]) (by rw [u2_ne _ _ _ _ (by omega), u2_same]) (fun k' hk' => by rw [u2_ne _ _ _ _ (by omega), u2_ne _ _ _ _ (by omega), u2_ne _ _ _ _ (by omega)]) (fun i' hi' q => ?_) (fun i' hi' q => ?_)
            · have e2 : i' = o := by
                have := hm.2 (tn i') (tn o) (x5 i' hi') (x5 o o1) (by omega) (q.trans o3.symm)
                exact inj_of x7 hi' o1 this
              rw [e2, u2_same, ev]
            · have e2 : ¬ i' = o := fun z => q (by rw [z]; exact o3)
              rw [u2_ne _ _ _ _ (fun z => e2 z.2), u2_ne _ _ _ _ (by omega), u2_ne _ _ _ _ (by omega)]
      · have c : ¬ (J 116 i + I 110 (48 * i + k)).toInt < (J 117 k).toInt := fun q => c (zlt.mpr q)
        rw [es, ← dk] at c
        exact keep f1 f2 (by omega)
    refine vX12_findFars_117 hS ⟨fun hc => ?_, fun _ => ?_⟩
    · rw [e13, x3] at hc
      exact absurd hc (nI_ge (by omega) (by omega))
    · rw [z48, znIc (show 48 * i + k < 2147483648 by omega), e110, e115, e111, e112, e13, kc, ic, nI_1]
      refine ⟨znIin (by omega) (by decide), fun c1 => skip (fun q => (F9.mp q.1).1 c1), fun c1 => ⟨znIin (by omega) (by decide), fun c2 => skip (fun q => c2 (F9.mp q.1).2.2.1), fun c2 => ⟨znIin (by omega) (by decide), fun c3 => skip (fun q => q.2 (m11.mp c3)), fun c3 => ⟨fun c4 => ?_, fun c4 => ⟨fun c5 => skip (fun q => (F9.mp q.1).2.2.2 ⟨c4.symm, c5.symm⟩), fun c5 => ?_⟩⟩⟩⟩⟩
      · exact tail (F9.mpr ⟨c1, h114, c2, fun q => c4 q.1.symm⟩) (fun q => c3 (m11.mpr q)) c1
      · exact tail (F9.mpr ⟨c1, h114, c2, fun q => c5 q.2.symm⟩) (fun q => c3 (m11.mpr q)) c1
  have inner : ∀ (kk k : Nat) (J : zFI) (d0 d : Nat → Int) (nx hf : Nat → Nat) (f : Bool) (i : Nat), k + kk = nh → i < nt → (∀ b, b ≠ 116 → b ≠ 117 → b ≠ 118 → J b = I b) → (∀ u, u < 50 → d0 u ≤ 1000000) → bJ (cE F w m) 48 d0 (mP F w m tn hl nt nh i k) d nx f → (f = true → ∃ k, k < nh ∧ d (hl k) < d0 (hl k)) → hF F w m d nx hf → mB J nt nh tn hl m w d hf → I 114 i = 0 → ¬ J 116 i = 1000000 →
      (∀ (J' : zFI) (d' : Nat → Int) (nx' hf' : Nat → Nat) (f' : Bool), (∀ b, b ≠ 116 → b ≠ 117 → b ≠ 118 → J' b = I b) → bJ (cE F w m) 48 d0 (mP F w m tn hl nt nh (i + 1) 0) d' nx' f' → (f' = true → ∃ k, k < nh ∧ d' (hl k) < d0 (hl k)) → hF F w m d' nx' hf' → mB J' nt nh tn hl m w d' hf' → ZW G mX12_findFars fX12_findFars lX12_findFars 83 [zo G 84, .int (bI f'), .int (nI (i + 1)), .null, .null, .null] [] S J' L 0 0 Q) →
      ZW G mX12_findFars fX12_findFars lX12_findFars 117 [zo G 84, .int (bI f), .int (nI i), .int (nI k), .null, .null] [] S J L 0 0 Q := by
    intro kk
    induction kk with
    | zero =>
      intro k J d0 d nx hf f i hk hi j1 hd0 hJ hfl hh hB h114 h116 nxt
      have : k = nh := by omega
      subst this
      refine vX12_findFars_117 hS ⟨fun _ => ?_, fun hc => ?_⟩
      · rw [nI_1]
        refine nxt J d nx hf f j1 (bJ_more hE hJ hd0 ?_) hfl hh hB
        rintro a b c ⟨i', k', y1, y2⟩
        exact Or.inl ⟨i', k', by omega, y2⟩
      · rw [j1 84 (by decide) (by decide) (by decide), x3] at hc
        exact absurd (Int32.le_refl _) hc
    | succ kk ih =>
      intro k J d0 d nx hf f i hk hi j1 hd0 hJ hfl hh hB h114 h116 nxt
      exact step J d0 d nx hf f i k hi (by omega) j1 hd0 hJ hfl hh hB h114 h116 (fun J' d' nx' hf' f' a1 a2 a3 a4 a5 a6 => ih (k + 1) J' d0 d' nx' hf' f' i (by omega) hi a1 hd0 a2 a3 a4 a5 h114 a6 nxt)
  have outer : ∀ (ii i : Nat) (J : zFI) (d0 d : Nat → Int) (nx hf : Nat → Nat) (f : Bool), i + ii = nt → (∀ b, b ≠ 116 → b ≠ 117 → b ≠ 118 → J b = I b) → (∀ u, u < 50 → d0 u ≤ 1000000) → bJ (cE F w m) 48 d0 (mP F w m tn hl nt nh i 0) d nx f → (f = true → ∃ k, k < nh ∧ d (hl k) < d0 (hl k)) → hF F w m d nx hf → mB J nt nh tn hl m w d hf →
      (∀ (J' : zFI) (d' : Nat → Int) (nx' hf' : Nat → Nat) (f' : Bool), (∀ b, b ≠ 116 → b ≠ 117 → b ≠ 118 → J' b = I b) → bJ (cE F w m) 48 d0 (cE F w m) d' nx' f' → (f' = true → ∃ k, k < nh ∧ d' (hl k) < d0 (hl k)) → hF F w m d' nx' hf' → mB J' nt nh tn hl m w d' hf' → ZW G mX12_findFars fX12_findFars lX12_findFars 75 [zo G 84, .int (bI f'), .null, .null, .null, .null] [] S J' L 0 0 Q) →
      ZW G mX12_findFars fX12_findFars lX12_findFars 83 [zo G 84, .int (bI f), .int (nI i), .null, .null, .null] [] S J L 0 0 Q := by
    intro ii
    induction ii with
    | zero =>
      intro i J d0 d nx hf f hi j1 hd0 hJ hfl hh hB nxt
      have : i = nt := by omega
      subst this
      refine vX12_findFars_83 hS ⟨fun _ => nxt J d nx hf f j1 (bJ_more hE hJ hd0 (fun a b c y => Or.inl (E_mP hok x11 y))) hfl hh hB, fun hc => ?_⟩
      rw [j1 84 (by decide) (by decide) (by decide), x1] at hc
      exact absurd (Int32.le_refl _) hc
    | succ ii ih =>
      intro i J d0 d nx hf f hi j1 hd0 hJ hfl hh hB nxt
      have ic : (nI i).toNatClampNeg = i := znIc (by omega)
      have go : bJ (cE F w m) 48 d0 (mP F w m tn hl nt nh (i + 1) 0) d nx f → ZW G mX12_findFars fX12_findFars lX12_findFars 83 [zo G 84, .int (bI f), .int (nI i + 1), .null, .null, .null] [] S J L 0 0 Q := fun hJ' => by
        rw [nI_1]
        exact ih (i + 1) J d0 d nx hf f (by omega) j1 hd0 hJ' hfl hh hB nxt
      refine vX12_findFars_83 hS ⟨fun hc => ?_, fun _ => ?_⟩
      · rw [j1 84 (by decide) (by decide) (by decide), x1] at hc
        exact absurd hc (nI_ge (by omega) (by omega))
      · rw [ic, j1 114 (by decide) (by decide) (by decide)]
        refine ⟨znIin (by omega) (by decide), fun c => go (bJ_more hE hJ hd0 ?_), fun c => ⟨fun c2 => ?_, fun c2 => go (bJ_more hE hJ hd0 ?_)⟩⟩
        · rintro a b k ⟨i', k', y1, y2, y3, y4, y5, y6⟩
          by_cases q : i' = i
          · rw [q, ← y4] at y5
            exact absurd ((x9 i k' (by omega) y3).mp y5).2.1 c
          · exact Or.inl ⟨i', k', by omega, y2, y3, y4, y5, y6⟩
        · exact inner nh 0 J d0 d nx hf f i (by omega) (by omega) j1 hd0 hJ hfl hh hB c c2 (fun J' d' nx' hf' f' a1 a2 a3 a4 a5 => ih (i + 1) J' d0 d' nx' hf' f' (by omega) a1 hd0 a2 a3 a4 a5 nxt)
        · rintro a b k y
          have ye := mP_E y
          obtain ⟨i', k', y1, y2, y3, y4, y5, y6, y7, y8⟩ := y
          by_cases q : i' = i
          · refine Or.inr ⟨ye, Or.inl ?_⟩
            have dt := hB.2.2.2.2 i (by omega) (by rw [j1 114 (by decide) (by decide) (by decide)]; exact c)
            rw [c2] at dt
            unfold dT at dt
            rw [q] at y7
            by_cases z : m (tn i) = 50
            · rw [if_pos z] at dt
              exact absurd dt (by decide)
            · rw [if_neg z] at dt y7
              have b := hok _ _ ((hm.1 _ (x5 i (by omega))).resolve_left z)
              by_cases z2 : d (m (tn i)) = 1000000
              · rw [y7]
                exact z2
              · exfalso
                rw [if_neg z2] at dt
                have up := hJ.1.2.1 (m (tn i)) (by omega)
                have lo := b_low hE hJ.1 (u := m (tn i)) (by omega)
                have dt : (1000000 : Int) = d (m (tn i)) - w (tn i) (m (tn i)) := dt
                omega
          · exact Or.inl ⟨i', k', by omega, y2, y3, y4, y5, y6, y7, y8⟩
  have turn : ∀ (N : Nat) (J : zFI) (d : Nat → Int) (nx hf : Nat → Nat), (∀ b, b ≠ 116 → b ≠ 117 → b ≠ 118 → J b = I b) → bInv (cE F w m) 48 d nx → hF F w m d nx hf → mB J nt nh tn hl m w d hf → sm (fun k => d (hl k) + 147) nh ≤ N → ZW G mX12_findFars fX12_findFars lX12_findFars 75 [zo G 84, .int 1, .null, .null, .null, .null] [] S J L 0 0 Q := by
    intro N
    induction N with
    | zero =>
      intro J d nx hf j1 hJ hh hB hN
      refine vX12_findFars_75 hS ⟨fun q => absurd q (by decide), fun _ => ?_⟩
      refine outer nt 0 J d d nx hf false (by omega) j1 hJ.2.1 (bS_start_P hJ) (fun q => Bool.noConfusion q) hh hB (fun J' d' nx' hf' f' a1 a2 a3 a4 a5 => ?_)
      cases f' with
      | false => exact vX12_findFars_75 hS ⟨fun _ => h J' d' nx' hf' a1 ⟨a2.1, bCv_0 hE a2⟩ a4 a5, fun q => absurd rfl q⟩
      | true =>
        exfalso
        obtain ⟨k, k1, k2⟩ := a3 rfl
        have lt := sm_lt (f := fun k => d' (hl k) + 147) (g := fun k => d (hl k) + 147) (n := nh) (k := k) (fun i hi => by have := a2.2.1 (hl i) (by have := x6 i hi; omega); show d' (hl i) + 147 ≤ d (hl i) + 147; omega) k1 (by show d' (hl k) + 147 < d (hl k) + 147; omega)
        have ge := sm_le (f := fun _ => 0) (g := fun k => d' (hl k) + 147) (n := nh) (fun i hi => by have := b_low hE a2.1 (u := hl i) (by have := x6 i hi; omega); show (0 : Int) ≤ d' (hl i) + 147; omega)
        rw [sm_zero] at ge
        omega
    | succ N ih =>
      intro J d nx hf j1 hJ hh hB hN
      refine vX12_findFars_75 hS ⟨fun q => absurd q (by decide), fun _ => ?_⟩
      refine outer nt 0 J d d nx hf false (by omega) j1 hJ.2.1 (bS_start_P hJ) (fun q => Bool.noConfusion q) hh hB (fun J' d' nx' hf' f' a1 a2 a3 a4 a5 => ?_)
      cases f' with
      | false => exact vX12_findFars_75 hS ⟨fun _ => h J' d' nx' hf' a1 ⟨a2.1, bCv_0 hE a2⟩ a4 a5, fun q => absurd rfl q⟩
      | true =>
        obtain ⟨k, k1, k2⟩ := a3 rfl
        have lt := sm_lt (f := fun k => d' (hl k) + 147) (g := fun k => d (hl k) + 147) (n := nh) (k := k) (fun i hi => by have := a2.2.1 (hl i) (by have := x6 i hi; omega); show d' (hl i) + 147 ≤ d (hl i) + 147; omega) k1 (by show d' (hl k) + 147 < d (hl k) + 147; omega)
        exact ih J' d' nx' hf' a1 a2.1 a4 a5 (by omega)
  -- all far
  have far : ∀ (kk k : Nat) (J : zFI), k + kk = nh → (∀ b, b ≠ 116 → b ≠ 117 → b ≠ 118 → J b = I b) → (∀ i, i < nt → I 114 i = 0 → J 116 i = if I 111 i = -1 then 0 else 1000000) → (∀ k', k' < k → J 117 k' = 1000000) → ZW G mX12_findFars fX12_findFars lX12_findFars 50 [zo G 84, .int (nI k), .null, .null, .null, .null] [] S J L 0 0 Q := by
    intro kk
    induction kk with
    | zero =>
      intro k J hk j1 j2 j3
      have : k = nh := by omega
      subst this
      refine vX12_findFars_50 hS ⟨fun _ => ?_, fun hc => ?_⟩
      · have inv : bInv (cE F w m) 48 (fun x => if x = 48 then 0 else 1000000) (fun _ => 0) := by
          refine ⟨rfl, fun u _ => ?_, fun u _ hd hz => ?_, fun u _ hd => ?_⟩
          · show (if u = 48 then (0 : Int) else 1000000) ≤ 1000000
            split <;> omega
          · exact absurd (if_neg hz) hd
          · by_cases q : u = 48
            · exact ⟨0, q⟩
            · exact absurd (if_neg q) hd
        have hdn : ∀ x, ¬ x = 48 → (fun x => if x = 48 then (0 : Int) else 1000000) x = 1000000 := fun x q => if_neg q
        refine turn (1000147 * k) J _ (fun _ => 0) (fun _ => 0) j1 inv (fun x hx hd => absurd (hdn x (by omega)) hd) ⟨rfl, fun k' hk' => ?_, fun x q _ => hdn x q, fun k' hk' hd => absurd (hdn _ (h49 k' hk')) hd, fun i hi hi4 => ?_⟩ ?_
        · rw [hdn _ (h49 k' hk'), j3 k' hk']
          rfl
        · have hi4 : I 114 i = 0 := by rw [← j1 114 (by decide) (by decide) (by decide)]; exact hi4
          rw [j2 i hi hi4]
          unfold dT
          rcases r1 i hi with ⟨a1, a2⟩ | ⟨k', a1, a2, a3⟩
          · rw [if_pos a1, if_pos a2]
            rfl
          · have := x6 k' a1
            rw [a2, if_neg (nI_neg1 (by omega)), if_neg (by omega), if_pos (by rw [a3]; exact hdn _ (h49 k' a1))]
            rfl
        · have e : sm (fun k' => (if hl k' = 48 then (0 : Int) else 1000000) + 147) k ≤ sm (fun _ => 1000147) k := sm_le (fun i hi => by rw [if_neg (h49 i hi)]; decide)
          rw [sm_const] at e
          show sm (fun k' => (if hl k' = 48 then (0 : Int) else 1000000) + 147) k ≤ _
          omega
      · rw [j1 84 (by decide) (by decide) (by decide), x3] at hc
        exact absurd (Int32.le_refl _) hc
    | succ kk ih =>
      intro k J hk j1 j2 j3
      refine vX12_findFars_50 hS ⟨fun hc => ?_, fun _ => ?_⟩
      · rw [j1 84 (by decide) (by decide) (by decide), x3] at hc
        exact absurd hc (nI_ge (by omega) (by omega))
      · rw [znIc (show k < 2147483648 by omega), nI_1]
        refine ⟨znIin (by omega) (by decide), ih (k + 1) _ (by omega) (fun b b1 b2 b3 => by rw [← u2_row _ _ _ _ b2]; exact j1 b b1 b2 b3) (fun i hi hi4 => by rw [u2_ne _ _ _ _ (by omega)]; exact j2 i hi hi4) (fun k' hk' => ?_)⟩
        by_cases q : k' = k
        · rw [q, u2_same]
        · rw [u2_ne _ _ _ _ (fun z => q z.2)]
          exact j3 k' (by omega)
  have zero : ∀ (ii i : Nat) (J : zFI), i + ii = nt → (∀ b, b ≠ 116 → b ≠ 117 → b ≠ 118 → J b = I b) → (∀ i', i' < i → I 114 i' = 0 → J 116 i' = if I 111 i' = -1 then 0 else 1000000) → ZW G mX12_findFars fX12_findFars lX12_findFars 2 [zo G 84, .int (nI i), .null, .null, .null, .null] [] S J L 0 0 Q := by
    intro ii
    induction ii with
    | zero =>
      intro i J hi j1 j2
      have : i = nt := by omega
      subst this
      refine vX12_findFars_2 hS ⟨fun _ => far nh 0 J (by omega) j1 j2 (fun k' hk' => absurd hk' (Nat.not_lt_zero _)), fun hc => ?_⟩
      rw [j1 84 (by decide) (by decide) (by decide), x1] at hc
      exact absurd (Int32.le_refl _) hc
    | succ ii ih =>
      intro i J hi j1 j2
      have go : ∀ v : Int32, (I 114 i = 0 → v = if I 111 i = -1 then 0 else 1000000) → ZW G mX12_findFars fX12_findFars lX12_findFars 2 [zo G 84, .int (nI i + 1), .null, .null, .null, .null] [] S (u2 J 116 i v) L 0 0 Q := fun v hv => by
        rw [nI_1]
        refine ih (i + 1) _ (by omega) (fun b b1 b2 b3 => by rw [← u2_row _ _ _ _ b1]; exact j1 b b1 b2 b3) (fun i' hi' h4 => ?_)
        by_cases q : i' = i
        · rw [q] at h4 ⊢
          rw [u2_same]
          exact hv h4
        · rw [u2_ne _ _ _ _ (fun z => q z.2)]
          exact j2 i' (by omega) h4
      refine vX12_findFars_2 hS ⟨fun hc => ?_, fun _ => ?_⟩
      · rw [j1 84 (by decide) (by decide) (by decide), x1] at hc
        exact absurd hc (nI_ge (by omega) (by omega))
      · rw [znIc (show i < 2147483648 by omega), j1 114 (by decide) (by decide) (by decide), j1 111 (by decide) (by decide) (by decide)]
        exact ⟨znIin (by omega) (by decide), fun c => go _ (fun q => absurd q c), fun c => ⟨fun c2 => go _ (fun _ => (if_neg c2).symm), fun c2 => go _ (fun _ => (if_pos c2).symm)⟩⟩
  exact ZC.of' (vX12_findFars_0 hS (zero nt 0 I (by omega) (fun _ _ _ _ => rfl) (fun i' hi' => absurd hi' (Nat.not_lt_zero _)))) rfl (Nat.le_of_ble_eq_true rfl) rfl
