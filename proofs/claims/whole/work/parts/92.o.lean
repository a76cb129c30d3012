/-! frames: what hangs together by paired joints -/
theorem zb_lt {s : Int32} {k : Nat} (h : zb s k) : k < 32 := BitVec.lt_of_getLsbD h
theorem zone_eq {k : Nat} : (1 : Int32) <<< (nI k &&& 31) = zone k := rfl
def zPrt (T P : Nat → Int32) : Prop := ∀ x, x < 48 → ¬ P x = -1 → ∃ y a b, y < 48 ∧ P x = nI y ∧ P y = nI x ∧ a < 16 ∧ b < 16 ∧ T x = nI a ∧ T y = nI b ∧ a ≠ b
def zAd (T P : Nat → Int32) (m a k : Nat) : Prop := ∃ x, x < m ∧ ¬ P x = -1 ∧ T x = nI a ∧ T (P x).toNatClampNeg = nI k
def zMt (T P : Nat → Int32) (m : Nat) (mt : Nat → Int32) : Prop := ∀ a, a < 16 → ∀ k, k < 32 → (zb (mt a) k ↔ zAd T P m a k)
theorem nI_same {a b : Nat} (ha : a < 2147483648) (hb : b < 2147483648) (h : nI a = nI b) : a = b := Classical.byContradiction (fun q => (nI_ne ha hb).mpr q h)
theorem zAd_see {T P : Nat → Int32} (h : zPrt T P) {a k : Nat} (ha : a < 16) (hk : k < 32) (q : zAd T P 48 a k) : ∃ x y, x < 48 ∧ y < 48 ∧ ¬ P x = -1 ∧ P x = nI y ∧ P y = nI x ∧ k < 16 ∧ T x = nI a ∧ T y = nI k ∧ a ≠ k := by
  obtain ⟨x, x1, x2, x3, x4⟩ := q
  obtain ⟨y, a', b', h1, h2, h3, h4, h5, h6, h7, h8⟩ := h x x1 x2
  rw [h2, znIc (by omega), h7] at x4
  rw [h6] at x3
  have e1 := nI_same (by omega) (by omega) x3
  have e2 := nI_same (by omega) (by omega) x4
  subst e1
  subst e2
  exact ⟨x, y, x1, h1, x2, h2, h3, h5, h6, h7, h8⟩
theorem zMt_16 {T P mt : Nat → Int32} (h : zPrt T P) (g : zMt T P 48 mt) (a k : Nat) (ha : a < 16) (q : zb (mt a) k) : k < 16 := by
  have hk := zb_lt q
  obtain ⟨x, y, -, -, -, -, -, k1, -⟩ := zAd_see h ha hk ((g a ha k hk).mp q)
  exact k1
theorem zMt_sym {T P mt : Nat → Int32} (h : zPrt T P) (g : zMt T P 48 mt) (a k : Nat) (ha : a < 16) (q : zb (mt a) k) : zb (mt k) a := by
  have hk := zb_lt q
  obtain ⟨x, y, x1, y1, p1, p2, p3, k1, t1, t2, ne⟩ := zAd_see h ha hk ((g a ha k hk).mp q)
  refine (g k k1 a (by omega)).mpr ⟨y, y1, ?_, t2, ?_⟩
  · rw [p3]
    exact nI_neg1 (by omega)
  · rw [p3, znIc (by omega)]
    exact t1
theorem zMt_irr {T P mt : Nat → Int32} (h : zPrt T P) (g : zMt T P 48 mt) (a : Nat) (ha : a < 16) : ¬ zb (mt a) a := fun q => by
  obtain ⟨x, y, x1, y1, p1, p2, p3, k1, t1, t2, ne⟩ := zAd_see h ha (zb_lt q) ((g a ha a (zb_lt q)).mp q)
  exact ne rfl
theorem zMt_zero {T P mt : Nat → Int32} (h : ∀ a, a < 16 → mt a = 0) : zMt T P 0 mt := fun a ha k _ => by
  rw [h a ha]
  exact ⟨fun q => absurd q (zb_0 k), fun q => by obtain ⟨x, x1, -⟩ := q; exact absurd x1 (Nat.not_lt_zero _)⟩
theorem zMt_skip {T P mt : Nat → Int32} {m : Nat} (g : zMt T P m mt) (h : P m = -1) : zMt T P (m + 1) mt := fun a ha k hk => by
  rw [g a ha k hk]
  refine ⟨fun q => ?_, fun q => ?_⟩
  · obtain ⟨x, x1, x2⟩ := q
    exact ⟨x, by omega, x2⟩
  · obtain ⟨x, x1, x2, x3⟩ := q
    rcases (by omega : x < m ∨ x = m) with c | c
    · exact ⟨x, c, x2, x3⟩
    · rw [c] at x2
      exact absurd h x2
theorem zMt_take {T P mt mt' : Nat → Int32} {m y a0 b0 : Nat} (g : zMt T P m mt) (h : P m = nI y) (hy : y < 48) (ha0 : a0 < 16) (hb0 : b0 < 16) (ta : T m = nI a0) (tb : T y = nI b0) (e : mt' a0 = mt a0 ||| zone b0) (e' : ∀ a, a ≠ a0 → mt' a = mt a) : zMt T P (m + 1) mt' := fun a ha k hk => by
  have old : zAd T P (m + 1) a k ↔ zAd T P m a k ∨ (a = a0 ∧ k = b0) := by
    refine ⟨fun q => ?_, fun q => ?_⟩
    · obtain ⟨x, x1, x2, x3, x4⟩ := q
      rcases (by omega : x < m ∨ x = m) with c | c
      · exact Or.inl ⟨x, c, x2, x3, x4⟩
      · rw [c] at x3 x4
        rw [h, znIc (by omega), tb] at x4
        rw [ta] at x3
        exact Or.inr ⟨(nI_same (by omega) (by omega) x3).symm, (nI_same (by omega) (by omega) x4).symm⟩
    · rcases q with ⟨x, x1, x2⟩ | ⟨q1, q2⟩
      · exact ⟨x, by omega, x2⟩
      · rw [q1, q2]
        refine ⟨m, by omega, ?_, ta, ?_⟩
        · rw [h]
          exact nI_neg1 (by omega)
        · rw [h, znIc (by omega)]
          exact tb
  rw [old]
  by_cases c : a = a0
  · rw [c, e, zb_or, zb_one (by omega) hk, g a0 ha0 k hk]
    exact ⟨fun q => q.elim Or.inl (fun q => Or.inr ⟨rfl, q⟩), fun q => q.elim Or.inl (fun q => Or.inr q.2)⟩
  · rw [e' a c, g a ha k hk]
    exact ⟨Or.inl, fun q => q.elim id (fun q => absurd q.1 c)⟩
theorem zMt_eq {T P mt mt' : Nat → Int32} {m : Nat} (g : zMt T P m mt) (g' : zMt T P m mt') (a : Nat) (ha : a < 16) : mt a = mt' a := zb_ext (fun k hk => (g a ha k hk).trans (g' a ha k hk).symm)
theorem zps_congr {mt mt' : Nat → Int32} (h : ∀ a, a < 16 → mt a = mt' a) (s : Int32) : ∀ k, k ≤ 16 → zps mt k s = zps mt' k s := by
  intro k
  induction k with
  | zero => intro _; rfl
  | succ k ih =>
    intro hk
    have i1 := ih (by omega)
    rcases zb_dec (zps mt k s) k with c | c
    · rw [zps_y c, zps_y (by rw [← i1]; exact c), i1, h k (by omega)]
    · rw [zps_n c, zps_n (by rw [← i1]; exact c), i1]
theorem zrn_congr {mt mt' : Nat → Int32} (h : ∀ a, a < 16 → mt a = mt' a) (s : Int32) (r : Nat) : zrn mt r s = zrn mt' r s := by
  induction r with
  | zero => rfl
  | succ r ih =>
    show zps mt 16 (zrn mt r s) = zps mt' 16 (zrn mt' r s)
    rw [ih, zps_congr h _ 16 (Nat.le_refl _)]
theorem zcm_congr {mt mt' : Nat → Int32} (h : ∀ a, a < 16 → mt a = mt' a) (t : Nat) : zcm mt t = zcm mt' t := zrn_congr h _ 16
theorem zst_congr {mt mt' : Nat → Int32} (h : ∀ a, a < 16 → mt a = mt' a) {t : Nat} (ht : t < 16) : zst mt t = zst mt' t := by
  have key : ∀ mt mt' : Nat → Int32, (∀ a, a < 16 → mt a = mt' a) → zst mt t = true → zst mt' t = true := fun mt mt' h q => by
    have q := zst_iff.mp q
    refine zst_iff.mpr ⟨by rw [← h t ht]; exact q.1, fun t' ht' hm => ?_⟩
    rw [← zcm_congr h]
    exact q.2 t' ht' (by rw [h t' (by omega)]; exact hm)
  exact Bool.eq_iff_iff.mpr ⟨key mt mt' h, key mt' mt (fun a ha => (h a ha).symm)⟩
theorem zmb_in {a : Nat} (h : a < 16) : ¬ p_X3_isMember (nI a) = 0 := by
  unfold p_X3_isMember
  rw [if_neg (nI_pos (by omega)), if_neg (show ¬ (16 : Int32) ≤ nI a from nI_ge (b := 16) h (by omega))]
  decide
theorem zmb_no : p_X3_isMember (-1) = 0 := by decide
