theorem cyc_of_r {on : Nat → Prop} {r : Nat → Nat} (h1 : ∀ x, on x → on (r x)) (h2 : ∀ x y, on x → on y → r x = r y → x = y) (h3 : ∀ x, on x → ∃ y, on y ∧ r y = x) : ∃ s, jCyc on s r := by
  have ex : ∀ x, ∃ y, on x → on y ∧ r y = x := fun x => by
    by_cases c : on x
    · obtain ⟨y, hy⟩ := h3 x c
      exact ⟨y, fun _ => hy⟩
    · exact ⟨0, fun q => absurd q c⟩
  obtain ⟨s, hs⟩ := Classical.axiomOfChoice ex
  refine ⟨s, fun x hx => hs x hx, fun x hx => ⟨h1 x hx, ?_⟩⟩
  obtain ⟨a1, a2⟩ := hs _ (h1 x hx)
  exact h2 _ _ a1 hx a2
def upds (m : Nat → Nat) (t p : Nat → Nat) : Nat → Nat → Nat
  | 0 => m
  | i + 1 => fun x => if x = t i then p i else upds m t p i x
theorem upds_no {m t p : Nat → Nat} {x : Nat} : ∀ i, (∀ i', i' < i → ¬ x = t i') → upds m t p i x = m x
  | 0, _ => rfl
  | i + 1, h => by
    show (if x = t i then p i else upds m t p i x) = m x
    rw [if_neg (h i (by omega))]
    exact upds_no i (fun i' hi' => h i' (by omega))
theorem upds_at {m t p : Nat → Nat} : ∀ i, (∀ a b, a < i → b < i → t a = t b → a = b) → ∀ i', i' < i → upds m t p i (t i') = p i'
  | 0, _, i', h => absurd h (Nat.not_lt_zero _)
  | i + 1, hd, i', h => by
    show (if t i' = t i then p i else upds m t p i (t i')) = p i'
    by_cases c : t i' = t i
    · rw [if_pos c, hd i' i h (by omega) c]
    · rw [if_neg c]
      refine upds_at i (fun a b ha hb => hd a b (by omega) (by omega)) i' ?_
      rcases (by omega : i' < i ∨ i' = i) with q | q
      · exact q
      · rw [q] at c
        exact absurd rfl c
section
variable {F : Nat → Nat → Prop} {w : Nat → Nat → Int} {m : Nat → Nat} {π : Nat → Int} {d : Nat → Int} {nx hf : Nat → Nat}
theorem m_aug {best : Nat} (hok : jOk F w) (hm : jVal F m) (hπ : jFe F w jAll m π) (hD : bD (cE F w m) 48 d nx) (hh : hF F w m d nx hf) (hb : jHl F best) (hbf : jFr m best) (hbd : ¬ d best = 1000000) (hmin : ∀ h, jHl F h → jFr m h → d h = 1000000 ∨ d best ≤ d h) :
    ∃ n m' π', it nx (n + 1) best = 48 ∧ (∀ i, i ≤ n → it nx i best < 48 ∧ ¬ d (it nx i best) = 1000000) ∧ (∀ i, i < n → m (hf (it nx i best)) = it nx (i + 1) best) ∧ m (hf (it nx n best)) = 50 ∧ (∀ a b, a ≤ n → b ≤ n → it nx a best = it nx b best → a = b) ∧ (∀ a b, a ≤ n → b ≤ n → hf (it nx a best) = hf (it nx b best) → a = b) ∧ (∀ i, i ≤ n → F (hf (it nx i best)) (it nx i best)) ∧
      jVal F m' ∧ jFe F w jAll m' π' ∧ (∀ i, i ≤ n → m' (hf (it nx i best)) = it nx i best) ∧ (∀ x, x < 48 → (∀ i, i ≤ n → ¬ x = hf (it nx i best)) → m' x = m x) ∧ jSz m' = jSz m + 1 ∧ jCo w m' = jCo w m + d best := by
  have hE := cE_ok hok hm hπ
  have b48 := j_hlt hok hb
  obtain ⟨k, C, k1, k2, k3, k4, -⟩ := b_way hE hD.1 (u := best) (by omega) hbd
  have k0 : 0 < k := by
    rcases Nat.eq_zero_or_pos k with q | q
    · rw [q] at k2
      have k2 : best = 48 := k2
      omega
    · exact q
  obtain ⟨n, rfl⟩ : ∃ n, k = n + 1 := ⟨k - 1, by omega⟩
  have dist := it_dist k2 k3
  generalize hp : (fun i => it nx i best) = p
  have hp : ∀ i, it nx i best = p i := fun i => by rw [← hp]
  have p0 : p 0 = best := (hp 0).symm
  have fin : ∀ i, i ≤ n → p i < 48 ∧ ¬ d (p i) = 1000000 := by
    intro i
    induction i with
    | zero => intro _; rw [p0]; exact ⟨b48, hbd⟩
    | succ i ih =>
      intro hi
      obtain ⟨c1, c2⟩ := ih (by omega)
      obtain ⟨a1, a2, a3, -⟩ := hh _ c1 c2
      have e : p (i + 1) = nx (p i) := by rw [← hp, it_succ, hp]
      have ne := k3 (i + 1) (by omega)
      rw [hp, e] at ne
      have f := (k4 (i + 1) (by omega)).2
      rw [hp] at f
      refine ⟨?_, f⟩
      rw [e]
      rw [a3] at ne ⊢
      by_cases c : m (hf (p i)) = 50
      · rw [if_pos c] at ne
        exact absurd rfl ne
      · rw [if_neg c]
        exact (hok _ _ ((hm.1 _ (hok _ _ a1).1).resolve_left c)).2.1
  have pn1 : p (n + 1) = 48 := by rw [← hp]; exact k2
  have pd : ∀ a b, a ≤ n + 1 → b ≤ n + 1 → p a = p b → a = b := fun a b ha hb' e => dist a b ha hb' (by rw [hp, hp]; exact e)
  have st : ∀ i, i ≤ n → F (hf (p i)) (p i) ∧ ¬ m (hf (p i)) = p i ∧ p (i + 1) = (if m (hf (p i)) = 50 then 48 else m (hf (p i))) ∧ d (p i) = dT w m d (hf (p i)) + w (hf (p i)) (p i) ∧ ¬ dT w m d (hf (p i)) = 1000000 := fun i hi => by
    obtain ⟨c1, c2⟩ := fin i hi
    obtain ⟨a1, a2, a3, a4, a5⟩ := hh _ c1 c2
    refine ⟨a1, a2, ?_, hF_eq hok hm hπ hD hh c1 c2, a4⟩
    rw [← a3, ← hp, it_succ, hp]
  have mid : ∀ i, i < n → m (hf (p i)) = p (i + 1) := fun i hi => by
    have e := (st i (by omega)).2.2.1
    by_cases c : m (hf (p i)) = 50
    · rw [if_pos c] at e
      have := (fin (i + 1) (by omega)).1
      omega
    · rw [if_neg c] at e
      exact e.symm
  have last : m (hf (p n)) = 50 := by
    have a := st n (Nat.le_refl _)
    have e := a.2.2.1
    rw [pn1] at e
    refine Classical.byContradiction (fun c => ?_)
    rw [if_neg c] at e
    have := (hok _ _ ((hm.1 _ (hok _ _ a.1).1).resolve_left c)).2.1
    omega
  have td : ∀ a b, a ≤ n → b ≤ n → hf (p a) = hf (p b) → a = b := fun a b ha hb' e => by
    have e1 := (st a ha).2.2.1
    have e2 := (st b hb').2.2.1
    rw [e, ← e2] at e1
    have := pd _ _ (by omega) (by omega) e1
    omega
  have tn : ∀ i, i ≤ n → jTn F (hf (p i)) ∧ hf (p i) < 48 := fun i hi => ⟨⟨_, (st i hi).1⟩, (hok _ _ (st i hi).1).1⟩
  have hl : ∀ i, i ≤ n → jHl F (p i) := fun i hi => ⟨_, (st i hi).1⟩
  -- the potential
  have eb := b_e hE hD.1 (by omega : best < 50) hbd
  have rcb := hπ best 49 0 (Or.inr (Or.inr (Or.inr (Or.inr (Or.inl ⟨rfl, hb, hbf, rfl⟩)))))
  have eb : π 48 ≤ d best + π best := by omega
  generalize hBd : d best + π 49 - π 48 = B
  have hB : 0 ≤ B := by omega
  have fe := m_shift hok hm hπ hD hB (fun h h1 h2 => by
    rcases hmin h h1 h2 with q | q
    · exact Or.inl q
    · exact Or.inr (by omega))
  have vh : ∀ i, i ≤ n → π (p i) - mE F w m π d B (p i) = π 48 - d (p i) := fun i hi => by
    have a := (b_mono hE hD.1 (by omega : best < 50) hbd (k := i) (fun i' hi' => k3 i' (by omega))).2.2
    rw [hp] at a
    have f := (fin i hi).2
    rw [mE_h hok (hl i hi), if_neg f]
    have a : d (p i) - - π (p i) ≤ d best - - π best := a
    omega
  have vt : ∀ i, i ≤ n → π (hf (p i)) - mE F w m π d B (hf (p i)) = π 48 - dT w m d (hf (p i)) := fun i hi => by
    have a := (b_mono hE hD.1 (by omega : best < 50) hbd (k := i) (fun i' hi' => k3 i' (by omega))).2.2
    rw [hp] at a
    have a : d (p i) - - π (p i) ≤ d best - - π best := a
    obtain ⟨s1, s2, s3, s4, s5⟩ := st i hi
    have q := hπ _ _ _ (Or.inl ⟨s1, trivial, s2, rfl⟩)
    rw [mE_t hok (tn i hi).1, if_neg s5]
    omega
  have v48 : mE F w m π d B 48 = 0 := by unfold mE; rw [if_pos rfl]
  have v49 : mE F w m π d B 49 = B := by unfold mE; rw [if_neg (by omega), if_pos rfl]
  -- the round
  have rT : ∀ i, i ≤ n → (if hf (p i) = 48 then 49 else if hf (p i) = 49 then best else @ite _ (jTn F (hf (p i))) (Classical.propDecidable _) (if m (hf (p i)) = 50 then 48 else m (hf (p i))) (hf (hf (p i)))) = p (i + 1) := fun i hi => by
    have := (tn i hi).2
    rw [if_neg (by omega), if_neg (by omega)]
    refine Eq.trans (@if_pos _ (Classical.propDecidable _) (tn i hi).1 _ _ _) ?_
    exact (st i hi).2.2.1.symm
  have rH : ∀ i, i ≤ n → (if p i = 48 then 49 else if p i = 49 then best else @ite _ (jTn F (p i)) (Classical.propDecidable _) (if m (p i) = 50 then 48 else m (p i)) (hf (p i))) = hf (p i) := fun i hi => by
    have := (fin i hi).1
    rw [if_neg (by omega), if_neg (by omega)]
    exact @if_neg _ (Classical.propDecidable _) (fun q => by
      obtain ⟨y, hy⟩ := hl i hi
      exact j_tnh hok q y hy) _ _ _
  obtain ⟨r, hr⟩ : ∃ r : Nat → Nat, r = fun x => if x = 48 then 49 else if x = 49 then best else @ite _ (jTn F x) (Classical.propDecidable _) (if m x = 50 then 48 else m x) (hf x) := ⟨_, rfl⟩
  have r48 : r 48 = 49 := by rw [hr]; exact if_pos rfl
  have r49 : r 49 = best := by rw [hr]; rfl
  have rT : ∀ i, i ≤ n → r (hf (p i)) = p (i + 1) := fun i hi => by rw [hr]; exact rT i hi
  have rH : ∀ i, i ≤ n → r (p i) = hf (p i) := fun i hi => by rw [hr]; exact rH i hi
  have tnh : ∀ a b, a ≤ n → b ≤ n → ¬ hf (p a) = p b := fun a b ha hb' e => by
    have t := (tn a ha).1
    rw [e] at t
    obtain ⟨y, hy⟩ := hl b hb'
    exact j_tnh hok t y hy
  obtain ⟨s, hs⟩ := cyc_of_r (on := fun x => x = 48 ∨ x = 49 ∨ (∃ i, i ≤ n ∧ x = p i) ∨ ∃ i, i ≤ n ∧ x = hf (p i)) (r := r) (by
    rintro x (rfl | rfl | ⟨i, hi, rfl⟩ | ⟨i, hi, rfl⟩)
    · rw [r48]; exact Or.inr (Or.inl rfl)
    · rw [r49]; exact Or.inr (Or.inr (Or.inl ⟨0, by omega, p0.symm⟩))
    · rw [rH i hi]; exact Or.inr (Or.inr (Or.inr ⟨i, hi, rfl⟩))
    · rw [rT i hi]
      rcases (by omega : i < n ∨ i = n) with c | c
      · exact Or.inr (Or.inr (Or.inl ⟨i + 1, by omega, rfl⟩))
      · rw [c, pn1]; exact Or.inl rfl) (by
    have up : ∀ i, i ≤ n → p (i + 1) = 48 ∨ (i < n ∧ p (i + 1) < 48) := fun i hi => by
      rcases (by omega : i < n ∨ i = n) with c | c
      · exact Or.inr ⟨c, (fin (i + 1) (by omega)).1⟩
      · rw [c]; exact Or.inl pn1
    rintro x y (rfl | rfl | ⟨i, hi, rfl⟩ | ⟨i, hi, rfl⟩) (rfl | rfl | ⟨j, hj, rfl⟩ | ⟨j, hj, rfl⟩) e
    · rfl
    · rw [r48, r49] at e; omega
    · rw [r48, rH j hj] at e; have := (tn j hj).2; omega
    · rw [r48, rT j hj] at e; have := up j hj; omega
    · rw [r48, r49] at e; omega
    · rfl
    · rw [r49, rH j hj, ← p0] at e; exact absurd e.symm (tnh j 0 hj (by omega))
    · rw [r49, rT j hj, ← p0] at e; have := pd 0 (j + 1) (by omega) (by omega) e; omega
    · rw [r48, rH i hi] at e; have := (tn i hi).2; omega
    · rw [r49, rH i hi, ← p0] at e; exact absurd e (tnh i 0 hi (by omega))
    · rw [rH i hi, rH j hj] at e; rw [td i j hi hj e]
    · rw [rH i hi, rT j hj] at e
      rcases up j hj with q | ⟨q, -⟩
      · have := (tn i hi).2; omega
      · exact absurd e (tnh i (j + 1) hi (by omega))
    · rw [r48, rT i hi] at e; have := up i hi; omega
    · rw [r49, rT i hi, ← p0] at e; have := pd (i + 1) 0 (by omega) (by omega) e; omega
    · rw [rT i hi, rH j hj] at e
      rcases up i hi with q | ⟨q, -⟩
      · have := (tn j hj).2; omega
      · exact absurd e.symm (tnh j (i + 1) hj (by omega))
    · rw [rT i hi, rT j hj] at e
      have := pd (i + 1) (j + 1) (by omega) (by omega) e
      rw [show i = j by omega]) (by
    rintro x (rfl | rfl | ⟨i, hi, rfl⟩ | ⟨i, hi, rfl⟩)
    · exact ⟨hf (p n), Or.inr (Or.inr (Or.inr ⟨n, Nat.le_refl _, rfl⟩)), by rw [rT n (Nat.le_refl _), pn1]⟩
    · exact ⟨48, Or.inl rfl, r48⟩
    · rcases Nat.eq_zero_or_pos i with c | c
      · rw [c, p0]; exact ⟨49, Or.inr (Or.inl rfl), r49⟩
      · exact ⟨hf (p (i - 1)), Or.inr (Or.inr (Or.inr ⟨i - 1, by omega, rfl⟩)), by rw [rT (i - 1) (by omega), show i - 1 + 1 = i by omega]⟩
    · exact ⟨p i, Or.inr (Or.inr (Or.inl ⟨i, hi, rfl⟩)), rH i hi⟩)
  generalize hon : (fun x => x = 48 ∨ x = 49 ∨ (∃ i, i ≤ n ∧ x = p i) ∨ ∃ i, i ≤ n ∧ x = hf (p i)) = on at hs
  have on_iff : ∀ x, on x ↔ (x = 48 ∨ x = 49 ∨ (∃ i, i ≤ n ∧ x = p i) ∨ ∃ i, i ≤ n ∧ x = hf (p i)) := fun x => by rw [← hon]
  have tig : jTig F w jAll m (fun x => π x - mE F w m π d B x) on s := by
    intro x hx
    have os := (hs.1 x hx).1
    have rs := (hs.1 x hx).2
    generalize s x = y at os rs ⊢
    show (x = 49 ∧ y = 48) ∨ ∃ c, jE F w jAll m x y c ∧ π x - mE F w m π d B x = c + (π y - mE F w m π d B y)
    rcases (on_iff y).mp os with e | e | ⟨i, hi, e⟩ | ⟨i, hi, e⟩
    · rw [e, r48] at rs
      exact Or.inl ⟨rs.symm, e⟩
    · rw [e, r49] at rs
      refine Or.inr ⟨0, Or.inr (Or.inr (Or.inr (Or.inr (Or.inl ⟨e, by rw [← rs]; exact hb, by rw [← rs]; exact hbf, rfl⟩)))), ?_⟩
      have := vh 0 (by omega)
      rw [p0] at this
      rw [e, v49, ← rs]
      omega
    · obtain ⟨s1, s2, s3, s4, s5⟩ := st i hi
      rw [e, rH i hi] at rs
      rw [e, ← rs]
      refine Or.inr ⟨_, Or.inl ⟨s1, trivial, s2, rfl⟩, ?_⟩
      have a1 := vh i hi
      have a2 := vt i hi
      omega
    · obtain ⟨s1, s2, s3, s4, s5⟩ := st i hi
      rw [e, rT i hi] at rs
      rw [e, ← rs]
      have a2 := vt i hi
      rcases (by omega : i < n ∨ i = n) with c | c
      · have me := mid i c
        have f := (hm.1 _ (tn i hi).2).resolve_left (by rw [me]; have := (fin (i + 1) (by omega)).1; omega)
        rw [me] at f
        refine Or.inr ⟨_, Or.inr (Or.inl ⟨f, trivial, me, rfl⟩), ?_⟩
        have a1 := vh (i + 1) (by omega)
        have a3 : dT w m d (hf (p i)) = d (p (i + 1)) - w (hf (p i)) (p (i + 1)) := by
          unfold dT
          rw [me, if_neg (by have := (fin (i + 1) (by omega)).1; omega), if_neg (fin (i + 1) (by omega)).2]
        omega
      · rw [c] at a2 ⊢
        rw [pn1]
        refine Or.inr ⟨0, Or.inr (Or.inr (Or.inl ⟨rfl, (tn n (Nat.le_refl _)).1, trivial, last, rfl⟩)), ?_⟩
        have a3 : dT w m d (hf (p n)) = 0 := by
          unfold dT
          rw [if_pos last]
        rw [v48]
        omega
  obtain ⟨m', hm'⟩ := rot_ex F m on s
  have mt : ∀ i, i ≤ n → m' (hf (p i)) = p i := fun i hi => by
    have o : on (hf (p i)) := (on_iff _).mpr (Or.inr (Or.inr (Or.inr ⟨i, hi, rfl⟩)))
    have o2 : on (p i) := (on_iff _).mpr (Or.inr (Or.inr (Or.inl ⟨i, hi, rfl⟩)))
    have es : s (hf (p i)) = p i := by
      rw [← rH i hi]
      exact (hs.2 _ o2).2
    rw [hm'.1 _ (tn i hi).2 o (tn i hi).1, es, if_pos (fin i hi).1]
  have mo : ∀ x, x < 48 → (∀ i, i ≤ n → ¬ x = hf (p i)) → m' x = m x := fun x hx hno => hm'.2 x hx (fun q => by
    rcases (on_iff x).mp q.1 with e | e | ⟨i, hi, e⟩ | ⟨i, hi, e⟩
    · omega
    · omega
    · obtain ⟨y, hy⟩ := hl i hi
      rw [e] at q
      exact j_tnh hok q.2 y hy
    · exact hno i hi e)
  have eqm : ∀ x, x < 48 → upds m (fun i => hf (p i)) p (n + 1) x = m' x := fun x hx => by
    by_cases c : ∃ i, i ≤ n ∧ x = hf (p i)
    · obtain ⟨i, hi, e⟩ := c
      rw [e, mt i hi]
      exact upds_at (t := fun i => hf (p i)) (n + 1) (fun a b ha hb' => td a b (by omega) (by omega)) i (by omega)
    · rw [mo x hx (fun i hi q => c ⟨i, hi, q⟩)]
      exact upds_no (n + 1) (fun i' hi' q => c ⟨i', by omega, q⟩)
  have steps : ∀ i, i ≤ n + 1 → jSz (upds m (fun i => hf (p i)) p i) = jSz m + (if i = n + 1 then 1 else 0) ∧ jCo w (upds m (fun i => hf (p i)) p i) = jCo w m + d best - d (p i) := by
    intro i
    induction i with
    | zero =>
      intro _
      rw [if_neg (by omega), p0]
      refine ⟨by show jSz m = _; omega, ?_⟩
      show jCo w m = _
      omega
    | succ i ih =>
      intro hi
      obtain ⟨i1, i2⟩ := ih (by omega)
      rw [if_neg (by omega)] at i1
      obtain ⟨s1, s2, s3, s4, s5⟩ := st i (by omega)
      have at0 : upds m (fun i => hf (p i)) p i (hf (p i)) = m (hf (p i)) := upds_no i (fun i' hi' q => by have := td i i' (by omega) (by omega) q; omega)
      have at1 : upds m (fun i => hf (p i)) p (i + 1) (hf (p i)) = p i := if_pos rfl
      have oth : ∀ x, x ≠ hf (p i) → upds m (fun i => hf (p i)) p (i + 1) x = upds m (fun i => hf (p i)) p i x := fun x hx => if_neg hx
      have u1 := sm_upd (f := fun t => if upds m (fun i => hf (p i)) p i t = 50 then (0 : Int) else 1) (g := fun t => if upds m (fun i => hf (p i)) p (i + 1) t = 50 then (0 : Int) else 1) (n := 48) (tn i (by omega)).2 (fun x _ hx => by rw [oth x hx])
      have u2 := sm_upd (f := fun t => if upds m (fun i => hf (p i)) p i t = 50 then (0 : Int) else w t (upds m (fun i => hf (p i)) p i t)) (g := fun t => if upds m (fun i => hf (p i)) p (i + 1) t = 50 then (0 : Int) else w t (upds m (fun i => hf (p i)) p (i + 1) t)) (n := 48) (tn i (by omega)).2 (fun x _ hx => by rw [oth x hx])
      have pf := (fin i (by omega)).1
      rw [at0, at1, if_neg (show ¬ p i = 50 by omega)] at u1 u2
      have j1 : jSz (upds m (fun i => hf (p i)) p (i + 1)) = jSz (upds m (fun i => hf (p i)) p i) - (if m (hf (p i)) = 50 then 0 else 1) + 1 := u1
      have j2 : jCo w (upds m (fun i => hf (p i)) p (i + 1)) = jCo w (upds m (fun i => hf (p i)) p i) - (if m (hf (p i)) = 50 then 0 else w (hf (p i)) (m (hf (p i)))) + w (hf (p i)) (p i) := u2
      rw [j1, j2, i1, i2]
      unfold dT at s4
      rcases (by omega : i < n ∨ i = n) with c | c
      · have me := mid i c
        have n50 : ¬ p (i + 1) = 50 := by have := (fin (i + 1) (by omega)).1; omega
        rw [me, if_neg n50, if_neg (fin (i + 1) (by omega)).2] at s4
        rw [me, if_neg n50, if_neg n50, if_neg (by omega)]
        omega
      · rw [c] at s4 ⊢
        rw [if_pos last] at s4
        rw [if_pos last, if_pos last, if_pos rfl, pn1, hD.1.1]
        omega
  have fin1 := steps (n + 1) (Nat.le_refl _)
  rw [if_pos rfl, pn1, hD.1.1] at fin1
  have z1 : jSz m' = jSz (upds m (fun i => hf (p i)) p (n + 1)) := sm_congr (fun x hx => by rw [eqm x hx])
  have z2 : jCo w m' = jCo w (upds m (fun i => hf (p i)) p (n + 1)) := sm_congr (fun x hx => by rw [eqm x hx])
  refine ⟨n, m', _, by rw [hp]; exact pn1, fun i hi => by rw [hp]; exact fin i hi, fun i hi => by rw [hp, hp]; exact mid i hi, by rw [hp]; exact last, fun a b ha hb' e => pd a b (by omega) (by omega) (by rw [← hp, ← hp]; exact e), fun a b ha hb' e => td a b ha hb' (by rw [← hp, ← hp]; exact e), fun i hi => by rw [hp]; exact (st i hi).1, j_rot_val hok hm hs tig hm', j_rot_fe hok hm fe hs tig hm', fun i hi => by rw [hp]; exact mt i hi, fun x hx hno => mo x hx (fun i hi => by rw [← hp]; exact hno i hi), by rw [z1, fin1.1], by rw [z2, fin1.2]; omega⟩
end
