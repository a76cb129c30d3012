/-! a raising told twice is the same -/
theorem zcc_congr {bf bf' : Nat → Int32} {i s : Nat} (e : bf i = bf' i) : zcc bf i s ↔ zcc bf' i s := by
  unfold zcc
  rw [e]
theorem zWy_congr {bf bf' : Nat → Int32} {m : Nat} {V : Nat → Int64} (e : ∀ i, i < m → bf i = bf' i) (h : zWy bf m V) : zWy bf' m V := by
  refine ⟨h.1, fun s s0 s1 => ?_⟩
  rw [h.2 s s0 s1]
  refine sL_congr m (fun i hi => ?_)
  have c := zcc_congr (s := s ^^^ 2 ^ i) (e i hi)
  by_cases q : s.testBit i = true ∧ zcc bf i (s ^^^ 2 ^ i)
  · rw [zwt_y q, zwt_y ⟨q.1, c.mp q.2⟩]
  · rw [zwt_n q, zwt_n (fun y => q ⟨y.1, c.mpr y.2⟩)]
theorem zmf_same {bf bf' D D' pr : Nat → Int32} {m s : Nat} (e : ∀ i, i < m → bf i = bf' i) (hs : s < 2 ^ m) (d : ∀ x, s < x → x < 2 ^ m → D x = D' x) : ∀ j, j ≤ m → zmf bf D pr s j = zmf bf' D' pr s j := by
  intro j
  induction j with
  | zero => intro _; rfl
  | succ j ih =>
    intro hj
    have c := zcc_congr (s := s) (e j (by omega))
    have i1 := ih (by omega)
    by_cases q : zcc bf j s
    · have gt := add_gt q.1
      have lt := add_lt (i := j) hs (by omega)
      have dd := d _ gt lt
      by_cases y : D (s ||| 2 ^ j) = 1000000
      · rw [zmf_n (fun z => z.2 y), zmf_n (fun z => z.2 (by rw [← dd]; exact y)), i1]
      · rw [zmf_y ⟨q, y⟩, zmf_y ⟨c.mp q, by rw [← dd]; exact y⟩, i1, dd]
    · rw [zmf_n (fun z => q z.1), zmf_n (fun z => q (c.mpr z.1)), i1]
theorem zMs_one {bf bf' D D' pr : Nat → Int32} {m : Nat} (e : ∀ i, i < m → bf i = bf' i) (h : zMs bf m D pr) (h' : zMs bf' m D' pr) : ∀ s, s < 2 ^ m → D s = D' s := by
  have pos := Nat.two_pow_pos m
  have key : ∀ k s, s + k = 2 ^ m → s < 2 ^ m → D s = D' s := by
    intro k
    induction k using Nat.strongRecOn with
    | _ k ih =>
      intro s hk hs
      by_cases c : s = 2 ^ m - 1
      · rw [c, h.1, h'.1]
      · rw [h.2 s (by omega), h'.2 s (by omega)]
        exact zmf_same e hs (fun x x1 x2 => ih (2 ^ m - x) (by omega) x (by omega) x2) m (Nat.le_refl _)
  exact fun s hs => key (2 ^ m - s) s (by omega) hs
theorem zWs_ex (bf : Nat → Int32) (m : Nat) (pr : Nat → Int32) : ∃ W : Nat → Int32, W (2 ^ m - 1) = 0 ∧ ∀ s, s < 2 ^ m - 1 → W s = zmx (zwf bf W s m) (pr s) := by
  have key : ∀ k, ∃ W : Nat → Int32, W (2 ^ m - 1) = 0 ∧ ∀ s, s < 2 ^ m - 1 → 2 ^ m - 1 ≤ s + k → W s = zmx (zwf bf W s m) (pr s) := by
    intro k
    induction k with
    | zero => exact ⟨fun _ => 0, rfl, fun s h1 h2 => by omega⟩
    | succ k ih =>
      obtain ⟨W, d1, d2⟩ := ih
      by_cases c : k + 1 ≤ 2 ^ m - 1
      · refine ⟨fun x => if x = 2 ^ m - 1 - (k + 1) then zmx (zwf bf W (2 ^ m - 1 - (k + 1)) m) (pr (2 ^ m - 1 - (k + 1))) else W x, ?_, fun s h1 h2 => ?_⟩
        · show (if 2 ^ m - 1 = 2 ^ m - 1 - (k + 1) then _ else W (2 ^ m - 1)) = 0
          rw [if_neg (by omega)]
          exact d1
        · have up : ∀ s, 2 ^ m - 1 - (k + 1) ≤ s → ∀ x, s < x → (fun x => if x = 2 ^ m - 1 - (k + 1) then zmx (zwf bf W (2 ^ m - 1 - (k + 1)) m) (pr (2 ^ m - 1 - (k + 1))) else W x) x = W x := fun s hs x hx => if_neg (by omega)
          rw [zwf_keep (up s (by omega)) m]
          by_cases e : s = 2 ^ m - 1 - (k + 1)
          · show (if s = 2 ^ m - 1 - (k + 1) then _ else W s) = _
            rw [if_pos e, e]
          · show (if s = 2 ^ m - 1 - (k + 1) then _ else W s) = _
            rw [if_neg e]
            exact d2 s h1 (by omega)
      · exact ⟨W, d1, fun s h1 h2 => d2 s h1 (by omega)⟩
  obtain ⟨W, d1, d2⟩ := key (2 ^ m)
  exact ⟨W, d1, fun s hs => d2 s hs (by omega)⟩
theorem zpr_congr {mt mt' : Nat → Int32} {hold : Int32} {m : Nat} (e : ∀ i, i < m → mt i = mt' i) : zpr mt hold m = zpr mt' hold m := by
  funext s
  unfold zpr
  congr 1
  refine zcnt_congr (fun k hk => ?_)
  unfold zpp
  rw [e k hk]
theorem zRt_use {mt : Nat → Int32} {p : Nat → Bool} {A : Nat → Nat → Prop} {hold most : Int32} {ord : Int64} {st : Nat → Int32} (h : zRt mt p A hold most ord st) {tm : Nat → Nat} {nr bf : Nat → Int32} {V : Nat → Int64} {D : Nat → Int32}
    (b1 : zTm p tm) (b2 : zLn mt tm (fun _ _ => True) (zcnt p 16) nr) (b3 : zLn mt tm A (zcnt p 16) bf) (b4 : zWy bf (zcnt p 16) V) (b5 : zMs bf (zcnt p 16) D (zpr nr hold (zcnt p 16))) :
    ord = V (2 ^ zcnt p 16 - 1) ∧ (V (2 ^ zcnt p 16 - 1) = 0 → most = -1 ∧ D 0 = 1000000 ∧ ∀ i, i < 16 → st i = -1) ∧
    (¬ V (2 ^ zcnt p 16 - 1) = 0 → most = D 0 ∧ 0 ≤ (D 0).toInt ∧ (D 0).toInt ≤ 16 ∧ (∀ i, i < 16 → zcnt p 16 ≤ i → st i = -1) ∧ ∃ se ch : Nat → Nat, se 0 = 0 ∧ ∀ k, k < zcnt p 16 → se k < 2 ^ zcnt p 16 ∧ ch k < zcnt p 16 ∧ zcc bf (ch k) (se k) ∧
      zmx (D (se k ||| 2 ^ ch k)) (zpr nr hold (zcnt p 16) (se k ||| 2 ^ ch k)) ≤ D 0 ∧ (∀ j, j < ch k → ¬ (zcc bf j (se k) ∧ zmx (D (se k ||| 2 ^ j)) (zpr nr hold (zcnt p 16) (se k ||| 2 ^ j)) ≤ D 0)) ∧ se (k + 1) = se k ||| 2 ^ ch k ∧ st k = nI (tm (ch k))) := by
  obtain ⟨tm0, nr0, bf0, V0, D0, a1, a2, a3, a4, a5, a6, a7, a8⟩ := h
  have m16 := zcnt_le p 16
  have et : ∀ i, i < zcnt p 16 → tm0 i = tm i := fun i hi => zTm_one a1 b1 hi
  have enr : ∀ i, i < zcnt p 16 → nr0 i = nr i := zLn_one (zLn_congr a2 et (fun _ _ => rfl) (fun _ _ _ _ => Iff.rfl) : zLn mt tm (fun _ _ => True) (zcnt p 16) nr0) b2
  have ebf : ∀ i, i < zcnt p 16 → bf0 i = bf i := zLn_one (zLn_congr a3 et (fun _ _ => rfl) (fun i x hi hx => Iff.rfl) : zLn mt tm A (zcnt p 16) bf0) b3
  have epr := zpr_congr (hold := hold) enr
  rw [epr] at a5 a8
  generalize hm : zcnt p 16 = m at *
  have pos := Nat.two_pow_pos m
  have a4' := zWy_congr ebf a4
  have eV : ∀ s, s < 2 ^ m → V0 s = V s := zWy_one a4' b4
  have eD : ∀ s, s < 2 ^ m → D0 s = D s := zMs_one ebf a5 b5
  have eF : V0 (2 ^ m - 1) = V (2 ^ m - 1) := eV _ (by omega)
  rw [eF] at a6 a7 a8
  refine ⟨a6, fun z => ⟨(a7 z).1, z_never m16 b4 b5 z, (a7 z).2⟩, fun nz => ?_⟩
  obtain ⟨c1, c2, c3⟩ := a8 nz
  have hpr := fun s => zpr_16 nr hold m16 s
  have pf : zpr nr hold m (2 ^ m - 1) = 0 := zpr_full m16 (fun x hx k hk y => ((b2 x hx k hk).mp y).1)
  obtain ⟨W, w1, w2⟩ := zWs_ex bf0 m (zpr nr hold m)
  have nz0 : ¬ V0 (2 ^ m - 1) = 0 := by rw [eF]; exact nz
  have key := z_worst m16 a4 nz0 a5 hpr pf w1 (fun s hs _ => w2 s hs)
  have p0 := zWy_pos m16 a4
  obtain ⟨k1, k2, k3⟩ := key 0 pos p0.1
  have w0 : W 0 ≤ D0 0 := by
    rw [k3, zpr_0, zmx_le]
    refine ⟨Int32.le_refl _, ?_⟩
    rw [zle]
    exact k1
  have chain := z_chain m16 a4 nz0 hpr (fun s hs _ => w2 s hs) key w0
  have e0 := eD 0 pos
  rw [e0] at k1 k2 c1
  refine ⟨c1, k1, k2, c3, zse bf0 (fun x => zmx (D0 x) (zpr nr hold m x) ≤ D0 0), zch bf0 (fun x => zmx (D0 x) (zpr nr hold m x) ≤ D0 0), rfl, fun k hk => ?_⟩
  obtain ⟨d1, d2, d3, d4, d5⟩ := chain k (by omega)
  obtain ⟨u1, u2', u3, u4⟩ := d5 hk
  have lt := add_lt d1 u1
  refine ⟨d1, u1, (zcc_congr (ebf _ u1)).mp u2', ?_, fun j hj y => u4 j hj ⟨(zcc_congr (ebf _ (by omega))).mpr y.1, ?_⟩, rfl, ?_⟩
  · rw [← eD _ lt, ← e0]
    exact u3
  · have yy := y.2
    rw [← eD _ (add_lt d1 (show j < m by omega)), ← e0] at yy
    exact yy
  · rw [c2 k hk, et _ u1]
theorem zWy_ge {bf : Nat → Int32} {m : Nat} {V : Nat → Int64} (hm : m ≤ 16) (h : zWy bf m V) {s : Nat} (hs : s < 2 ^ m) : 0 ≤ (V s).toInt := by
  rw [zWy_of h (s + 1) s (by omega) hs]
  have b := zNc_fa (bf := bf) (m := m) (s + 1) s hs
  have c := zfa_16 (zcnt (fun i => s.testBit i) m) (Nat.le_trans (zcnt_le _ m) hm)
  rw [Int64.toInt_ofNat_of_lt (by omega)]
  omega
theorem zWy_sign {bf : Nat → Int32} {m : Nat} {V : Nat → Int64} (hm : m ≤ 16) (h : zWy bf m V) {s : Nat} (hs : s < 2 ^ m) : lg_cmp (V s) 0 ≤ 0 ↔ V s = 0 := by
  rw [lg_cmp_le]
  have g := zWy_ge hm h hs
  refine ⟨fun q => ?_, fun q => by rw [q]; exact Int64.le_refl _⟩
  rw [Int64.le_iff_toInt_le, show (0 : Int64).toInt = 0 from rfl] at q
  rw [← Int64.toInt_inj, show (0 : Int64).toInt = 0 from rfl]
  omega
