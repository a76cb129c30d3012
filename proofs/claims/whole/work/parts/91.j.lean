/-! sets of timbers as bits -/
def zb (s : Int32) (k : Nat) : Prop := s.toBitVec.getLsbD k = true
def zone (k : Nat) : Int32 := 1 <<< (nI k &&& 31)
theorem zb_dec (s : Int32) (k : Nat) : zb s k ∨ ¬ zb s k := Classical.em _
theorem zb_0 (k : Nat) : ¬ zb 0 k := by
  unfold zb
  show ¬ (0#32).getLsbD k = true
  simp
theorem zone_all : ∀ k j : Fin 32, (zone k.1).toBitVec.getLsbD j.1 = decide (j.1 = k.1) := by decide +kernel
theorem zb_one {m k : Nat} (hm : m < 32) (hk : k < 32) : zb (zone m) k ↔ k = m := by
  unfold zb
  rw [zone_all ⟨m, hm⟩ ⟨k, hk⟩]
  simp
theorem zb_or (a b : Int32) (k : Nat) : zb (a ||| b) k ↔ zb a k ∨ zb b k := by
  unfold zb
  rw [Int32.toBitVec_or, BitVec.getLsbD_or]
  simp
theorem zb_ext {a b : Int32} (h : ∀ k, k < 32 → (zb a k ↔ zb b k)) : a = b := by
  refine Int32.toBitVec_inj.mp (BitVec.eq_of_getLsbD_eq (fun i hi => ?_))
  have := h i hi
  unfold zb at this
  exact Bool.eq_iff_iff.mpr this
theorem zsh32_all : ∀ k : Fin 32, (((nI k.1 &&& 31).toBitVec).smod 32).toNat = k.1 := by decide +kernel
theorem zb_test {v : Int32} {x : Nat} (hx : x < 32) : (v >>> (nI x &&& 31)) &&& 1 = 1 ↔ zb v x := by
  have key : ∀ y : Int32, y &&& 1 = 1 ↔ y.toBitVec.getLsbD 0 = true := fun y => by
    constructor
    · intro h
      have := congrArg (fun z : Int32 => z.toBitVec.getLsbD 0) h
      simp only [Int32.toBitVec_and, BitVec.getLsbD_and] at this
      have e : (1 : Int32).toBitVec.getLsbD 0 = true := by decide
      rw [e, Bool.and_true] at this
      exact this
    · intro h
      refine Int32.toBitVec_inj.mp (BitVec.eq_of_getLsbD_eq (fun i hi => ?_))
      have e : ∀ i : Fin 32, (1 : Int32).toBitVec.getLsbD i.1 = decide (i.1 = 0) := by decide
      rw [Int32.toBitVec_and, BitVec.getLsbD_and, e ⟨i, hi⟩]
      by_cases c : i = 0
      · subst c
        rw [h]
        rfl
      · simp [c]
  rw [key, Int32.toBitVec_shiftRight, BitVec.getLsbD_sshiftRight', zsh32_all ⟨x, hx⟩]
  unfold zb
  simp [hx]
/-! what hangs together: mt the mates of each -/
noncomputable def zps (mt : Nat → Int32) : Nat → Int32 → Int32
  | 0, s => s
  | k + 1, s => @ite _ (zb (zps mt k s) k) (Classical.propDecidable _) (zps mt k s ||| mt k) (zps mt k s)
noncomputable def zrn (mt : Nat → Int32) : Nat → Int32 → Int32
  | 0, s => s
  | r + 1, s => zps mt 16 (zrn mt r s)
noncomputable def zcm (mt : Nat → Int32) (t : Nat) : Int32 := zrn mt 16 (zone t)
def zcl (mt : Nat → Int32) (D : Nat → Prop) : Prop := ∀ t, t < 16 → D t → ∀ k, k < 32 → zb (mt t) k → D k
theorem zps_y {mt : Nat → Int32} {k : Nat} {s : Int32} (h : zb (zps mt k s) k) : zps mt (k + 1) s = zps mt k s ||| mt k := @if_pos _ (Classical.propDecidable _) h _ _ _
theorem zps_n {mt : Nat → Int32} {k : Nat} {s : Int32} (h : ¬ zb (zps mt k s) k) : zps mt (k + 1) s = zps mt k s := @if_neg _ (Classical.propDecidable _) h _ _ _
theorem zps_sup {mt : Nat → Int32} {s : Int32} (k : Nat) {x : Nat} (h : zb s x) : zb (zps mt k s) x := by
  induction k with
  | zero => exact h
  | succ k ih =>
    rcases zb_dec (zps mt k s) k with c | c
    · rw [zps_y c, zb_or]
      exact Or.inl ih
    · rw [zps_n c]
      exact ih
theorem zps_mates {mt : Nat → Int32} {s : Int32} {t x : Nat} (ht : zb s t) (hx : zb (mt t) x) : ∀ k, t < k → zb (zps mt k s) x := by
  intro k
  induction k with
  | zero => intro h; exact absurd h (Nat.not_lt_zero _)
  | succ k ih =>
    intro hk
    rcases zb_dec (zps mt k s) k with c | c
    · rw [zps_y c, zb_or]
      rcases (by omega : t < k ∨ t = k) with q | q
      · exact Or.inl (ih q)
      · rw [← q]
        exact Or.inr hx
    · rw [zps_n c]
      rcases (by omega : t < k ∨ t = k) with q | q
      · exact ih q
      · rw [← q] at c
        exact absurd (zps_sup t ht) c
theorem zps_in {mt : Nat → Int32} {D : Nat → Prop} (hD : zcl mt D) {s : Int32} (hs : ∀ x, x < 32 → zb s x → D x) : ∀ k, k ≤ 16 → ∀ x, x < 32 → zb (zps mt k s) x → D x := by
  intro k
  induction k with
  | zero => intro _; exact hs
  | succ k ih =>
    intro hk x hx h
    rcases zb_dec (zps mt k s) k with c | c
    · rw [zps_y c, zb_or] at h
      rcases h with h | h
      · exact ih (by omega) x hx h
      · exact hD k (by omega) (ih (by omega) k (by omega) c) x hx h
    · rw [zps_n c] at h
      exact ih (by omega) x hx h
theorem zrn_sup {mt : Nat → Int32} {s : Int32} (r : Nat) {x : Nat} (h : zb s x) : zb (zrn mt r s) x := by
  induction r with
  | zero => exact h
  | succ r ih => exact zps_sup 16 ih
theorem zrn_in {mt : Nat → Int32} {D : Nat → Prop} (hD : zcl mt D) {s : Int32} (hs : ∀ x, x < 32 → zb s x → D x) : ∀ r, ∀ x, x < 32 → zb (zrn mt r s) x → D x := by
  intro r
  induction r with
  | zero => exact hs
  | succ r ih => exact zps_in hD ih 16 (Nat.le_refl _)
noncomputable def zbb (s : Int32) (k : Nat) : Bool := @decide (zb s k) (Classical.propDecidable _)
theorem zbb_iff {s : Int32} {k : Nat} : zbb s k = true ↔ zb s k := @decide_eq_true_iff _ (Classical.propDecidable _)
theorem zcnt_sub {p q : Nat → Bool} (h : ∀ k, p k = true → q k = true) : ∀ n, zcnt p n ≤ zcnt q n := by
  intro n
  induction n with
  | zero => exact Nat.le_refl _
  | succ n ih =>
    rw [zcnt_succ, zcnt_succ]
    by_cases c : p n = true
    · rw [if_pos c, if_pos (h n c)]
      omega
    · rw [if_neg c]
      split <;> omega
theorem zcnt_lt {p q : Nat → Bool} (h : ∀ k, p k = true → q k = true) {x : Nat} (hq : q x = true) (hp : ¬ p x = true) : ∀ n, x < n → zcnt p n < zcnt q n := by
  intro n
  induction n with
  | zero => intro hx; exact absurd hx (Nat.not_lt_zero _)
  | succ n ih =>
    intro hx
    rw [zcnt_succ, zcnt_succ]
    rcases (by omega : x < n ∨ x = n) with c | c
    · have := ih c
      by_cases d : p n = true
      · rw [if_pos d, if_pos (h n d)]
        omega
      · rw [if_neg d]
        split <;> omega
    · rw [c] at hq hp
      rw [if_neg hp, if_pos hq]
      have := zcnt_sub h n
      omega
/-- after sixteen rounds nothing is missing -/
theorem zrn_cl {mt : Nat → Int32} {t : Nat} (ht : t < 16) (h16 : ∀ a k, a < 16 → zb (mt a) k → k < 16) : ∀ r, zcl mt (zb (zrn mt r (zone t))) ∨ r + 1 ≤ zcnt (zbb (zrn mt r (zone t))) 16 := by
  intro r
  induction r with
  | zero =>
    refine Or.inr ?_
    have := zcnt_lt (p := fun _ => false) (q := zbb (zone t)) (fun k q => absurd q (by decide)) (x := t) (zbb_iff.mpr ((zb_one (by omega) (by omega)).mpr rfl)) (by decide) 16 ht
    show 0 + 1 ≤ zcnt (zbb (zone t)) 16
    omega
  | succ r ih =>
    rcases zb_dec 0 0 with _ | _
    · exact absurd (by assumption) (zb_0 0)
    · by_cases c : zcl mt (zb (zrn mt r (zone t)))
      · refine Or.inl ?_
        have e : ∀ x, x < 32 → (zb (zrn mt (r + 1) (zone t)) x ↔ zb (zrn mt r (zone t)) x) := fun x hx => ⟨fun q => zps_in c (fun _ _ y => y) 16 (Nat.le_refl _) x hx q, fun q => zps_sup 16 q⟩
        intro a ha q k hk y
        exact (e k hk).mpr (c a ha ((e a (by omega)).mp q) k hk y)
      · have i1 := ih.resolve_left c
        refine Or.inr ?_
        obtain ⟨a, h1⟩ := Classical.not_forall.mp c
        obtain ⟨ha, h2⟩ := Classical.not_imp.mp h1
        obtain ⟨qa, h3⟩ := Classical.not_imp.mp h2
        obtain ⟨k, h4⟩ := Classical.not_forall.mp h3
        obtain ⟨hk, h5⟩ := Classical.not_imp.mp h4
        obtain ⟨y, no⟩ := Classical.not_imp.mp h5
        have := zcnt_lt (p := zbb (zrn mt r (zone t))) (q := zbb (zrn mt (r + 1) (zone t))) (fun x q => zbb_iff.mpr (zps_sup 16 (zbb_iff.mp q))) (x := k) (zbb_iff.mpr (zps_mates qa y 16 ha)) (fun q => no (zbb_iff.mp q)) 16 (h16 a k ha y)
        omega
section
variable {mt : Nat → Int32}
theorem zcm_self {t : Nat} (ht : t < 16) : zb (zcm mt t) t := zrn_sup 16 ((zb_one (by omega) (by omega)).mpr rfl)
theorem zcm_cl (h16 : ∀ a k, a < 16 → zb (mt a) k → k < 16) {t : Nat} (ht : t < 16) : zcl mt (zb (zcm mt t)) := by
  rcases zrn_cl ht h16 16 with c | c
  · exact c
  · have := zcnt_le (zbb (zrn mt 16 (zone t))) 16
    omega
theorem zcm_in {D : Nat → Prop} (hD : zcl mt D) {t : Nat} (ht : t < 16) (h : D t) {x : Nat} (hx : x < 32) (q : zb (zcm mt t) x) : D x :=
  zrn_in hD (fun y hy z => by rw [(zb_one (by omega) hy).mp z]; exact h) 16 x hx q
theorem zcm_16 (h16 : ∀ a k, a < 16 → zb (mt a) k → k < 16) {t : Nat} (ht : t < 16) {x : Nat} (hx : x < 32) (q : zb (zcm mt t) x) : x < 16 :=
  zcm_in (mt := mt) (D := fun x => x < 16) (fun a ha _ k _ y => h16 a k ha y) ht ht hx q
theorem zcm_sym (h16 : ∀ a k, a < 16 → zb (mt a) k → k < 16) (hsym : ∀ a k, a < 16 → zb (mt a) k → zb (mt k) a) {t x : Nat} (ht : t < 16) (hx : x < 16) (q : zb (zcm mt t) x) : zb (zcm mt x) t := by
  refine zcm_in (mt := mt) (D := fun y => y < 16 ∧ zb (zcm mt y) t) (fun a ha qa k hk y => ?_) ht ⟨ht, zcm_self ht⟩ (by omega) q |>.2
  have k16 := h16 a k ha y
  refine ⟨k16, ?_⟩
  have ak : zb (zcm mt k) a := zcm_cl h16 k16 k k16 (zcm_self k16) a (by omega) (hsym a k ha y)
  exact zcm_in (zcm_cl h16 k16) ha ak (by omega) qa.2
theorem zcm_eq (h16 : ∀ a k, a < 16 → zb (mt a) k → k < 16) (hsym : ∀ a k, a < 16 → zb (mt a) k → zb (mt k) a) {t x : Nat} (ht : t < 16) (hx : x < 16) (q : zb (zcm mt t) x) : zcm mt x = zcm mt t := by
  refine zb_ext (fun k hk => ⟨fun y => zcm_in (zcm_cl h16 ht) hx q hk y, fun y => zcm_in (zcm_cl h16 hx) ht (zcm_sym h16 hsym ht hx q) hk y⟩)
/-- t begins a frame: it has mates and none before it hangs together with it -/
noncomputable def zst (mt : Nat → Int32) (t : Nat) : Bool := @decide (¬ mt t = 0 ∧ ∀ t', t' < t → ¬ mt t' = 0 → ¬ zb (zcm mt t') t) (Classical.propDecidable _)
theorem zst_iff {t : Nat} : zst mt t = true ↔ ¬ mt t = 0 ∧ ∀ t', t' < t → ¬ mt t' = 0 → ¬ zb (zcm mt t') t := @decide_eq_true_iff _ (Classical.propDecidable _)
/-- each with mates is in one frame -/
theorem zst_ex (h16 : ∀ a k, a < 16 → zb (mt a) k → k < 16) (hsym : ∀ a k, a < 16 → zb (mt a) k → zb (mt k) a) {x : Nat} (hx : x < 16) (hm : ¬ mt x = 0) : ∃ t, t ≤ x ∧ zst mt t = true ∧ zb (zcm mt t) x := by
  obtain ⟨t, h1, h2⟩ := least (p := fun t => t ≤ x ∧ ¬ mt t = 0 ∧ zb (zcm mt t) x) ⟨x, Nat.le_refl _, hm, zcm_self hx⟩
  refine ⟨t, h1.1, zst_iff.mpr ⟨h1.2.1, fun t' ht' hm' q => ?_⟩, h1.2.2⟩
  have e := zcm_eq h16 hsym (by omega) (by omega) q
  exact h2 t' ht' ⟨by omega, hm', by rw [← e]; exact h1.2.2⟩
theorem zst_one (h16 : ∀ a k, a < 16 → zb (mt a) k → k < 16) (hsym : ∀ a k, a < 16 → zb (mt a) k → zb (mt k) a) {t t' x : Nat} (ht : t < 16) (ht' : t' < 16) (hx : x < 16) (h : zst mt t = true) (h' : zst mt t' = true) (q : zb (zcm mt t) x) (q' : zb (zcm mt t') x) : t = t' := by
  have key : ∀ a b, a < b → b < 16 → zst mt a = true → zst mt b = true → zb (zcm mt a) x → zb (zcm mt b) x → False := fun a b hab hb ha' hb' qa qb => by
    have e1 := zcm_eq h16 hsym (by omega) hx qa
    have e2 := zcm_eq h16 hsym hb hx qb
    have : zb (zcm mt a) b := by rw [← e1, e2]; exact zcm_self hb
    exact (zst_iff.mp hb').2 a hab (zst_iff.mp ha').1 this
  rcases Nat.lt_trichotomy t t' with c | c | c
  · exact (key t t' c ht' h h' q q').elim
  · exact c
  · exact (key t' t c ht h' h q' q).elim
theorem zcnt_2 {p q : Nat → Bool} (h : ∀ k, p k = true → q k = true) {x y : Nat} (hxy : x < y) (hx : q x = true) (hy : q y = true) (px : ¬ p x = true) (py : ¬ p y = true) : ∀ n, y < n → zcnt p n + 2 ≤ zcnt q n := by
  intro n
  induction n with
  | zero => intro hn; exact absurd hn (Nat.not_lt_zero _)
  | succ n ih =>
    intro hn
    rw [zcnt_succ, zcnt_succ]
    rcases (by omega : y < n ∨ y = n) with c | c
    · have := ih c
      by_cases d : p n = true
      · rw [if_pos d, if_pos (h n d)]
        omega
      · rw [if_neg d]
        split <;> omega
    · rw [c] at hy py
      rw [if_neg py, if_pos hy]
      have := zcnt_lt h hx px n (by omega)
      omega
/-- at most eight frames -/
theorem zst_8 (h16 : ∀ a k, a < 16 → zb (mt a) k → k < 16) (hsym : ∀ a k, a < 16 → zb (mt a) k → zb (mt k) a) (hirr : ∀ a, a < 16 → ¬ zb (mt a) a) : ∀ T, T ≤ 16 → 2 * zcnt (zst mt) T ≤ 16 := by
  have key : ∀ T, T ≤ 16 → 2 * zcnt (zst mt) T ≤ zcnt (fun x => @decide (∃ t, t < T ∧ zst mt t = true ∧ zb (zcm mt t) x) (Classical.propDecidable _)) 16 := by
    intro T
    induction T with
    | zero => intro _; exact Nat.zero_le _
    | succ T ih =>
      intro hT
      have i1 := ih (by omega)
      rw [zcnt_succ]
      have sub : ∀ k, (fun x => @decide (∃ t, t < T ∧ zst mt t = true ∧ zb (zcm mt t) x) (Classical.propDecidable _)) k = true → (fun x => @decide (∃ t, t < T + 1 ∧ zst mt t = true ∧ zb (zcm mt t) x) (Classical.propDecidable _)) k = true := fun k q => by
        obtain ⟨t, h1, h2⟩ := (@decide_eq_true_iff _ (Classical.propDecidable _)).mp q
        exact (@decide_eq_true_iff _ (Classical.propDecidable _)).mpr ⟨t, by omega, h2⟩
      by_cases c : zst mt T = true
      · rw [if_pos c]
        have sT := zst_iff.mp c
        have tT : T < 16 := by omega
        obtain ⟨k, k1, k2⟩ : ∃ k, k < 32 ∧ zb (mt T) k := Classical.byContradiction (fun no => sT.1 (zb_ext (fun k hk => ⟨fun q => absurd ⟨k, hk, q⟩ no, fun q => absurd q (zb_0 k)⟩)))
        have k16 := h16 T k tT k2
        have inT := zcm_self (mt := mt) tT
        have inK : zb (zcm mt T) k := zcm_cl h16 tT T tT inT k k1 k2
        have new : ∀ x, x < 16 → zb (zcm mt T) x → ¬ (fun x => @decide (∃ t, t < T ∧ zst mt t = true ∧ zb (zcm mt t) x) (Classical.propDecidable _)) x = true := fun x hx q y => by
          obtain ⟨t, h1, h2, h3⟩ := (@decide_eq_true_iff _ (Classical.propDecidable _)).mp y
          have := zst_one h16 hsym (show t < 16 by omega) tT hx h2 c h3 q
          omega
        have old : ∀ x, zb (zcm mt T) x → (fun x => @decide (∃ t, t < T + 1 ∧ zst mt t = true ∧ zb (zcm mt t) x) (Classical.propDecidable _)) x = true := fun x q => (@decide_eq_true_iff _ (Classical.propDecidable _)).mpr ⟨T, by omega, c, q⟩
        have ne : ¬ k = T := fun q => hirr T tT (by rw [q] at k2; exact k2)
        rcases (by omega : T < k ∨ k < T) with q | q
        · have := zcnt_2 sub q (old T inT) (old k inK) (new T tT inT) (new k k16 inK) 16 k16
          omega
        · have := zcnt_2 sub q (old k inK) (old T inT) (new k k16 inK) (new T tT inT) 16 tT
          omega
      · rw [if_neg c]
        have := zcnt_sub sub 16
        omega
  intro T hT
  exact Nat.le_trans (key T hT) (zcnt_le _ _)
end
