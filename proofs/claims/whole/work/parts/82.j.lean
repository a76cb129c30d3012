/-! the model's least ways: by holes alone, from the source -/
def cE (F : Nat → Nat → Prop) (w : Nat → Nat → Int) (m : Nat → Nat) (h l : Nat) (c : Int) : Prop :=
  (∃ t, F t h ∧ ¬ m t = h ∧ m t = l ∧ ¬ l = 50 ∧ c = w t h - w t l) ∨ (l = 48 ∧ ∃ t, F t h ∧ m t = 50 ∧ c = w t h)
section
variable {F : Nat → Nat → Prop} {w : Nat → Nat → Int} {m : Nat → Nat} {π : Nat → Int} {d : Nat → Int} {nx : Nat → Nat}
theorem cE_ok (hok : jOk F w) (hm : jVal F m) (hπ : jFe F w jAll m π) : bOk (cE F w m) (fun x => - π x) := by
  intro h l c he
  rcases he with ⟨t, a1, a2, a3, a4, a5⟩ | ⟨a1, t, a2, a3, a4⟩
  · have b := hok _ _ a1
    have f := (hm.1 t b.1).resolve_left (by omega)
    rw [a3] at f
    have b2 := hok _ _ f
    have p1 := hπ t h _ (Or.inl ⟨a1, trivial, a2, rfl⟩)
    have p2 := hπ l t _ (Or.inr (Or.inl ⟨f, trivial, a3, rfl⟩))
    show h < 50 ∧ l < 50 ∧ -3 ≤ c ∧ c ≤ 3 ∧ - π h ≤ c + - π l
    omega
  · have b := hok _ _ a2
    have p1 := hπ t h _ (Or.inl ⟨a2, trivial, by omega, rfl⟩)
    have p2 := hπ 48 t 0 (Or.inr (Or.inr (Or.inl ⟨rfl, ⟨_, a2⟩, trivial, a3, rfl⟩)))
    show h < 50 ∧ l < 50 ∧ -3 ≤ c ∧ c ≤ 3 ∧ - π h ≤ c + - π l
    rw [a1]
    omega
/-- how far a tenon is -/
def dT (w : Nat → Nat → Int) (m : Nat → Nat) (d : Nat → Int) (t : Nat) : Int := if m t = 50 then 0 else if d (m t) = 1000000 then 1000000 else d (m t) - w t (m t)
noncomputable def mE (F : Nat → Nat → Prop) (w : Nat → Nat → Int) (m : Nat → Nat) (π d : Nat → Int) (B : Int) (x : Nat) : Int :=
  if x = 48 then 0 else if x = 49 then B else @ite _ (jTn F x) (Classical.propDecidable _) (if dT w m d x = 1000000 then B else min (dT w m d x + π x - π 48) B) (if d x = 1000000 then B else min (d x + π x - π 48) B)
theorem mE_t {B : Int} (hok : jOk F w) {t : Nat} (ht : jTn F t) : mE F w m π d B t = if dT w m d t = 1000000 then B else min (dT w m d t + π t - π 48) B := by
  have := j_tlt hok ht
  unfold mE
  rw [if_neg (by omega), if_neg (by omega)]
  exact @if_pos _ (Classical.propDecidable _) ht _ _ _
theorem mE_h {B : Int} (hok : jOk F w) {h : Nat} (hh : jHl F h) : mE F w m π d B h = if d h = 1000000 then B else min (d h + π h - π 48) B := by
  have := j_hlt hok hh
  unfold mE
  rw [if_neg (by omega), if_neg (by omega)]
  exact @if_neg _ (Classical.propDecidable _) (fun q => by
    obtain ⟨x, hx⟩ := hh
    exact j_tnh hok q x hx) _ _ _
theorem m_shift (hok : jOk F w) (hm : jVal F m) (hπ : jFe F w jAll m π) (hD : bD (cE F w m) 48 d nx) {B : Int} (hB : 0 ≤ B) (hfree : ∀ h, jHl F h → jFr m h → d h = 1000000 ∨ B ≤ d h + π 49 - π 48) : jFe F w jAll m (fun x => π x - mE F w m π d B x) := by
  have hE := cE_ok hok hm hπ
  have eh : ∀ h, h < 50 → ¬ d h = 1000000 → π 48 ≤ d h + π h := fun h hh q => by
    have := b_e hE hD.1 hh q
    omega
  intro u v c he
  have hp := hπ u v c he
  show π u - mE F w m π d B u ≤ c + (π v - mE F w m π d B v)
  have e48 : mE F w m π d B 48 = 0 := by unfold mE; rw [if_pos rfl]
  have e49 : mE F w m π d B 49 = B := by unfold mE; rw [if_neg (by omega), if_pos rfl]
  rcases he with ⟨a1, a2, a3, a4⟩ | ⟨a1, a2, a3, a4⟩ | ⟨a1, a2, a3, a4, a5⟩ | ⟨a1, a2, a3, a4, a5⟩ | ⟨a1, a2, a3, a4⟩ | ⟨a1, a2, a3, a4⟩
  · have b := hok _ _ a1
    rw [mE_t hok ⟨_, a1⟩, mE_h hok ⟨_, a1⟩]
    -- the hole is at most the tenon and the cost
    have le : ¬ dT w m d u = 1000000 → ¬ d v = 1000000 ∧ d v ≤ dT w m d u + w u v := fun q => by
      unfold dT at q ⊢
      by_cases c1 : m u = 50
      · rw [if_pos c1]
        have ed : cE F w m v 48 (w u v) := Or.inr ⟨rfl, u, a1, c1, rfl⟩
        have z : ¬ d 48 = 1000000 := by rw [hD.1.1]; omega
        have := hD.2 _ _ _ ed z
        have f := bD_fin hE hD ed z
        rw [hD.1.1] at this
        exact ⟨f, by omega⟩
      · rw [if_neg c1] at q ⊢
        have q2 : ¬ d (m u) = 1000000 := fun y => by rw [if_pos y] at q; exact q rfl
        rw [if_neg q2]
        have ed : cE F w m v (m u) (w u v - w u (m u)) := Or.inl ⟨u, a1, a3, rfl, c1, rfl⟩
        have := hD.2 _ _ _ ed q2
        exact ⟨bD_fin hE hD ed q2, by omega⟩
    by_cases c1 : dT w m d u = 1000000
    · rw [if_pos c1]
      split <;> omega
    · obtain ⟨f1, f2⟩ := le c1
      rw [if_neg c1, if_neg f1]
      omega
  · have b := hok _ _ a1
    rw [mE_t hok ⟨_, a1⟩, mE_h hok ⟨_, a1⟩]
    have e : dT w m d v = if d u = 1000000 then 1000000 else d u - w v u := by
      unfold dT
      rw [if_neg (by omega), a3]
    rw [e]
    by_cases c1 : d u = 1000000
    · rw [if_pos c1, if_pos c1, if_pos rfl]
      omega
    · have up := bD_up hE hD (u := u) (by omega) c1
      rw [if_neg c1, if_neg c1, if_neg (by omega)]
      omega
  · have b := j_tlt hok a2
    rw [a1, e48, mE_t hok a2]
    have e : dT w m d v = 0 := by
      unfold dT
      rw [if_pos a4]
    rw [e, if_neg (by omega)]
    rw [a1] at hp
    omega
  · have b := j_tlt hok a2
    rw [a1, e48, mE_t hok a2]
    rw [a1] at hp
    have f := (hm.1 u b).resolve_left a4
    have b2 := hok _ _ f
    by_cases c1 : dT w m d u = 1000000
    · rw [if_pos c1]
      omega
    · rw [if_neg c1]
      have e : dT w m d u = if d (m u) = 1000000 then 1000000 else d (m u) - w u (m u) := by
        unfold dT
        rw [if_neg a4]
      have c2 : ¬ d (m u) = 1000000 := fun q => by rw [if_pos q] at e; exact c1 e
      rw [if_neg c2] at e
      have q1 := eh (m u) (by omega) c2
      have q2 := hπ (m u) u _ (Or.inr (Or.inl ⟨f, trivial, rfl, rfl⟩))
      omega
  · have b := j_hlt hok a2
    rw [a1, e49, mE_h hok a2]
    rw [a1] at hp
    by_cases c1 : d u = 1000000
    · rw [if_pos c1]
      omega
    · rw [if_neg c1]
      have := (hfree u a2 a3).resolve_left c1
      omega
  · have b := j_hlt hok a2
    rw [a1, e49, mE_h hok a2]
    rw [a1] at hp
    split <;> omega
/-- no hole is reached: no join is better -/
theorem m_stop (hok : jOk F w) (hm : jVal F m) (hπ : jFe F w jAll m π) (hD : bD (cE F w m) 48 d nx) (hfree : ∀ h, jHl F h → jFr m h → d h = 1000000) : jOpt F w m := by
  refine j_gap_opt hok hm (m_shift hok hm hπ hD (B := 1000 + (π 49 - π 48).natAbs) (by omega) (fun h h1 h2 => Or.inl (hfree h h1 h2))) ?_
  have e48 : mE F w m π d (1000 + (π 49 - π 48).natAbs) 48 = 0 := by unfold mE; rw [if_pos rfl]
  have e49 : mE F w m π d (1000 + (π 49 - π 48).natAbs) 49 = 1000 + (π 49 - π 48).natAbs := by unfold mE; rw [if_neg (by omega), if_pos rfl]
  show 1000 ≤ π 48 - mE F w m π d _ 48 - (π 49 - mE F w m π d _ 49)
  rw [e48, e49]
  omega
/-- the tenon by which a hole is reached -/
def hF (F : Nat → Nat → Prop) (w : Nat → Nat → Int) (m : Nat → Nat) (d : Nat → Int) (nx hf : Nat → Nat) : Prop :=
  ∀ h, h < 48 → ¬ d h = 1000000 → F (hf h) h ∧ ¬ m (hf h) = h ∧ nx h = (if m (hf h) = 50 then 48 else m (hf h)) ∧ ¬ dT w m d (hf h) = 1000000 ∧ dT w m d (hf h) + w (hf h) h ≤ d h
theorem hF_eq (hok : jOk F w) (hm : jVal F m) (hπ : jFe F w jAll m π) (hD : bD (cE F w m) 48 d nx) {hf : Nat → Nat} (hh : hF F w m d nx hf) {h : Nat} (h48 : h < 48) (hd : ¬ d h = 1000000) : d h = dT w m d (hf h) + w (hf h) h := by
  obtain ⟨a1, a2, a3, a4, a5⟩ := hh h h48 hd
  have hE := cE_ok hok hm hπ
  unfold dT at a4 a5 ⊢
  by_cases c1 : m (hf h) = 50
  · rw [if_pos c1] at a5 ⊢
    have := hD.2 _ _ _ (Or.inr ⟨rfl, hf h, a1, c1, rfl⟩ : cE F w m h 48 (w (hf h) h)) (by rw [hD.1.1]; omega)
    rw [hD.1.1] at this
    omega
  · rw [if_neg c1] at a4 a5 ⊢
    have c2 : ¬ d (m (hf h)) = 1000000 := fun y => by rw [if_pos y] at a4; exact a4 rfl
    rw [if_neg c2] at a5 ⊢
    have := hD.2 _ _ _ (Or.inl ⟨hf h, a1, a2, rfl, c1, rfl⟩ : cE F w m h (m (hf h)) (w (hf h) h - w (hf h) (m (hf h)))) c2
    omega
end
