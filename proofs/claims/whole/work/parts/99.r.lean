/-! the rows that grow -/
def zgw (S : zSh) (n : Nat) : zSh := (zN S + 1 + 1, fun a => if a = zN S + 1 then (3, n) else (if a = zN S then (2, n) else zK S a), u2 (u2 (zR S) 60 6 (some (zN S))) 60 7 (some (zN S + 1)))
theorem zgw_r {S : zSh} {n o k : Nat} (h : ¬ (o = 60 ∧ (k = 6 ∨ k = 7))) : zR (zgw S n) o k = zR S o k := by
  show u2 (u2 (zR S) 60 6 (some (zN S))) 60 7 (some (zN S + 1)) o k = _
  rw [u2_ne _ _ _ _ (by omega), u2_ne _ _ _ _ (by omega)]
theorem zgw_std {S : zSh} {n : Nat} (h : zStd S) (h1 : 1 ≤ n) (h2 : n ≤ 65536) : zStd (zgw S n) := by
  obtain ⟨a, b, c, d, e⟩ := h
  refine ⟨show 140 ≤ zN S + 1 + 1 by omega, fun x hx => ?_, fun o k x q => ?_, ?_, zN S, zN S + 1, n, ?_, ?_, ?_⟩
  · show (if x = zN S + 1 then (3, n) else (if x = zN S then (2, n) else zK S x)) = _
    rw [if_neg (by omega), if_neg (by omega)]
    exact b x hx
  · rw [zgw_r (fun y => ?_)]
    · exact c o k x q
    · obtain ⟨y1, y2⟩ := y
      rw [y1] at q
      rcases y2 with y2 | y2
      · rw [y2] at q
        exact nomatch (show (none : Option Nat) = some x from q)
      · rw [y2] at q
        exact nomatch (show (none : Option Nat) = some x from q)
  · obtain ⟨r0, r1, r2, d1, d2, d3, d4⟩ := d
    exact ⟨r0, r1, r2, by rw [zgw_r (by omega)]; exact d1, by rw [zgw_r (by omega)]; exact d2, by rw [zgw_r (by omega)]; exact d3, d4⟩
  · show u2 (u2 (zR S) 60 6 (some (zN S))) 60 7 (some (zN S + 1)) 60 6 = _
    rw [u2_ne _ _ _ _ (by omega), u2_same]
  · show u2 (u2 (zR S) 60 6 (some (zN S))) 60 7 (some (zN S + 1)) 60 7 = _
    exact u2_same _ _ _ _
  · refine ⟨⟨show zpm (zN S) < zN S + 1 + 1 by rw [zpm_ge a]; omega, ?_⟩, ⟨show zpm (zN S + 1) < zN S + 1 + 1 by rw [zpm_ge (by omega)]; omega, ?_⟩, Or.inr a, Or.inr (by omega), by omega, h1, h2⟩
    · show (if zN S = zN S + 1 then (3, n) else (if zN S = zN S then (2, n) else zK S (zN S))) = (2, n)
      rw [if_neg (by omega), if_pos rfl]
    · show (if zN S + 1 = zN S + 1 then (3, n) else (if zN S + 1 = zN S then (2, n) else zK S (zN S + 1))) = (3, n)
      rw [if_pos rfl]
theorem zgw_wy {S : zSh} {n : Nat} : zwy (zgw S n) = zN S := by
  show (u2 (u2 (zR S) 60 6 (some (zN S))) 60 7 (some (zN S + 1)) 60 6).getD 0 = _
  rw [u2_ne _ _ _ _ (by omega), u2_same]
  rfl
theorem zgw_wo {S : zSh} {n : Nat} : zwo (zgw S n) = zN S + 1 := by
  show (u2 (u2 (zR S) 60 6 (some (zN S))) 60 7 (some (zN S + 1)) 60 7).getD 0 = _
  rw [u2_same]
  rfl
theorem zgw_wl {S : zSh} {n : Nat} : zwl (zgw S n) = n := by
  unfold zwl
  rw [zgw_wy]
  show ((if zN S = zN S + 1 then (3, n) else (if zN S = zN S then (2, n) else zK S (zN S))) : Nat × Nat).2 = n
  rw [if_neg (by omega), if_pos rfl]
theorem zgw_rl {S : zSh} {n : Nat} (x : Int32) : zrl (zgw S n) x = zrl S x := by
  unfold zrl
  rw [zgw_r (by omega)]
/-- the shape is the same, or the rows have grown for 2 ^ m sets -/
def zGo (S S' : zSh) (m : Nat) : Prop := (S' = S ∧ 2 ^ m ≤ zwl S) ∨ (S' = zgw S (2 ^ m) ∧ zwl S < 2 ^ m)
theorem zGo.std {S S' : zSh} {m : Nat} (h : zGo S S' m) (hS : zStd S) (hm : m ≤ 16) : zStd S' := by
  have := p16 hm
  have := Nat.two_pow_pos m
  rcases h with ⟨h, -⟩ | ⟨h, -⟩
  · rw [h]; exact hS
  · rw [h]; exact zgw_std hS (by omega) (by omega)
theorem zGo.room {S S' : zSh} {m : Nat} (h : zGo S S' m) : 2 ^ m ≤ zwl S' := by
  rcases h with ⟨h, q⟩ | ⟨h, -⟩
  · rw [h]; exact q
  · rw [h, zgw_wl]; exact Nat.le_refl _
theorem zGo.rl {S S' : zSh} {m : Nat} (h : zGo S S' m) (x : Int32) : zrl S' x = zrl S x := by
  rcases h with ⟨h, -⟩ | ⟨h, -⟩
  · rw [h]
  · rw [h, zgw_rl]
theorem c_makeRoom {G : Gp} {Q : zPost} {S : zSh} {I : zFI} {L : zFL} {m : Nat} (hS : zStd S) (hm : m ≤ 16) (h0 : I 60 0 = nI m) (q : ∀ S', zGo S S' m → Q none S' I L) : ZC G mX7_makeRoom fX7_makeRoom lX7_makeRoom [zo G 60] S I L 2 131072 Q := by
  have h16 := p16 hm
  have pos := Nat.two_pow_pos m
  have l16 : zwl S ≤ 65536 := hS.gr.2.2.2.2.2.2.2.2
  have c1 : (1 : Int32) <<< ((I 60 0) &&& 31) = nI (2 ^ m) := by rw [h0, zone_eq, zone_nI hm]
  have c2 : (nI (2 ^ m)).toNatClampNeg = 2 ^ m := znIc (by omega)
  have a140 := hS.1
  have std1 : zHas (zN S + 1, fun a => if a = zN S then (2, 2 ^ m) else zK S a, zR S) 60 (0, 7) := by
    have a := hS.1
    refine ⟨show zpm 60 < zN S + 1 by rw [show zpm 60 = 60 from rfl]; omega, ?_⟩
    show (if 60 = zN S then (2, 2 ^ m) else zK S 60) = (0, 7)
    rw [if_neg (by omega)]
    exact (hS.has (a := 60) rfl rfl).2
  have std2 : zHas (zgw S (2 ^ m)) 60 (0, 7) := (zgw_std hS (by omega) (by omega)).has (a := 60) rfl rfl
  refine ZC.of' (vs := [zo G 60]) ?_ rfl (Nat.le_of_ble_eq_true rfl) rfl
  refine zr_aload_n dX7_makeRoom_0 rfl rfl ?_
  refine zr_getR dX7_makeRoom_1 zf_X7_31 rfl (hS.has (a := 60) rfl rfl) hS.gr.1 ?_
  refine zr_alen dX7_makeRoom_4 hS.gr.2.2.1 (Or.inr (Or.inl rfl)) rfl ?_
  refine zr_iconst (v := 1) dX7_makeRoom_5 (by decide) ?_
  refine zr_aload_n dX7_makeRoom_6 rfl rfl ?_
  refine zr_getIv (x := I 60 0) dX7_makeRoom_7 zf_X7_9 rfl (hS.has (a := 60) rfl rfl) rfl ?_
  refine zr_ishl dX7_makeRoom_10 ?_
  rw [c1]
  refine zr_icge (tgt := 38) dX7_makeRoom_11 (by decide) (fun b => ?_) (fun b => ?_)
  · refine zr_return_ dX7_makeRoom_38 rfl (q S (Or.inl ⟨rfl, ?_⟩))
    have b : nI (2 ^ m) ≤ nI (zwl S) := b
    rw [zle, znI (by omega), znI (by omega)] at b
    omega
  · have b : ¬ nI (2 ^ m) ≤ nI (zwl S) := b
    rw [zle, znI (by omega), znI (by omega)] at b
    refine zr_aload_n dX7_makeRoom_14 rfl rfl ?_
    refine zr_iconst (v := 1) dX7_makeRoom_15 (by decide) ?_
    refine zr_aload_n dX7_makeRoom_16 rfl rfl ?_
    refine zr_getIv (x := I 60 0) dX7_makeRoom_17 zf_X7_9 rfl (hS.has (a := 60) rfl rfl) rfl ?_
    refine zr_ishl dX7_makeRoom_20 ?_
    rw [c1]
    refine zr_newJ (bc' := 1) (bs' := 65536) dX7_makeRoom_21 zac_long (nI_pos (by omega)) c2 (show 2 ^ m * 8 ≤ 536870912 by omega) (by omega) (by omega) ?_
    rw [zpi_ge a140]
    refine zr_putR dX7_makeRoom_23 zf_X7_31 (Or.inl rfl) rfl std1 rfl rfl ?_
    refine zr_aload_n dX7_makeRoom_26 rfl rfl ?_
    refine zr_iconst (v := 1) dX7_makeRoom_27 (by decide) ?_
    refine zr_aload_n dX7_makeRoom_28 rfl rfl ?_
    refine zr_getIv (x := I 60 0) dX7_makeRoom_29 zf_X7_9 rfl std1 rfl ?_
    refine zr_ishl dX7_makeRoom_32 ?_
    rw [c1]
    refine zr_newB (bc' := 0) (bs' := 0) dX7_makeRoom_33 zac_byte (nI_pos (by omega)) c2 (show 2 ^ m * 1 ≤ 536870912 by omega) (by omega) (by omega) ?_
    rw [zpi_ge (show 140 ≤ zN S + 1 by omega)]
    refine zr_putR dX7_makeRoom_35 zf_X7_35 (Or.inl rfl) rfl std2 rfl rfl ?_
    exact zr_return_ dX7_makeRoom_38 rfl (q (zgw S (2 ^ m)) (Or.inr ⟨rfl, by omega⟩))
/-! the first place with P, and the choices -/
noncomputable def zfst (P : Nat → Prop) : Nat := @dite _ (∃ i, P i) (Classical.propDecidable _) (fun h => Classical.choose (least h)) (fun _ => 0)
theorem zfst_eq {P : Nat → Prop} {i : Nat} (h : P i) (h' : ∀ j, j < i → ¬ P j) : zfst P = i := by
  have e : zfst P = Classical.choose (least ⟨i, h⟩) := @dif_pos _ (Classical.propDecidable _) ⟨i, h⟩ _ _ _
  have s := Classical.choose_spec (least (p := P) ⟨i, h⟩)
  rw [e]
  rcases Nat.lt_trichotomy (Classical.choose (least (p := P) ⟨i, h⟩)) i with c | c | c
  · exact absurd s.1 (h' _ c)
  · exact c
  · exact absurd h (s.2 i c)
theorem zfst_is {P : Nat → Prop} (h : ∃ i, P i) : P (zfst P) ∧ ∀ j, j < zfst P → ¬ P j := by
  have e : zfst P = Classical.choose (least h) := @dif_pos _ (Classical.propDecidable _) h _ _ _
  rw [e]
  exact Classical.choose_spec (least h)
/-- the set that stands after k steps, each the least that keeps within ok -/
noncomputable def zse (bf : Nat → Int32) (ok : Nat → Prop) : Nat → Nat
  | 0 => 0
  | k + 1 => zse bf ok k ||| 2 ^ zfst (fun j => zcc bf j (zse bf ok k) ∧ ok (zse bf ok k ||| 2 ^ j))
noncomputable def zch (bf : Nat → Int32) (ok : Nat → Prop) (k : Nat) : Nat := zfst (fun j => zcc bf j (zse bf ok k) ∧ ok (zse bf ok k ||| 2 ^ j))
theorem zcnt_add {s i : Nat} (h : ¬ s.testBit i = true) {m : Nat} (hi : i < m) : zcnt (fun k => (s ||| 2 ^ i).testBit k) m = zcnt (fun k => s.testBit k) m + 1 := by
  have := zcnt_del (s := s ||| 2 ^ i) hi ((add_bit s i i).mpr (Or.inr rfl))
  rw [add_del h] at this
  exact this.symm
theorem zcnt_full {m : Nat} : ∀ k, k ≤ m → zcnt (fun i => (2 ^ m - 1).testBit i) k = k := by
  intro k
  induction k with
  | zero => intro _; rfl
  | succ k ih =>
    intro hk
    rw [zcnt_succ, if_pos (full_bit.mpr (by omega)), ih (by omega)]
/-- the choices go on to the end -/
theorem z_chain {bf D pr W : Nat → Int32} {m : Nat} {V : Nat → Int64} (hm : m ≤ 16) (hV : zWy bf m V) (full : ¬ V (2 ^ m - 1) = 0) (hpr : ∀ s, 0 ≤ (pr s).toInt ∧ (pr s).toInt ≤ 16) (hW : ∀ s, s < 2 ^ m - 1 → ¬ V s = 0 → W s = zmx (zwf bf W s m) (pr s))
    (key : ∀ s, s < 2 ^ m → ¬ V s = 0 → 0 ≤ (D s).toInt ∧ (D s).toInt ≤ 16 ∧ W s = zmx (D s) (pr s)) {v : Int32} (h0 : W 0 ≤ v) :
    ∀ k, k ≤ m → zse bf (fun x => zmx (D x) (pr x) ≤ v) k < 2 ^ m ∧ zcnt (fun i => (zse bf (fun x => zmx (D x) (pr x) ≤ v) k).testBit i) m = k ∧ (¬ V (zse bf (fun x => zmx (D x) (pr x) ≤ v) k) = 0) ∧ W (zse bf (fun x => zmx (D x) (pr x) ≤ v) k) ≤ v ∧
      (k < m → zch bf (fun x => zmx (D x) (pr x) ≤ v) k < m ∧ zcc bf (zch bf (fun x => zmx (D x) (pr x) ≤ v) k) (zse bf (fun x => zmx (D x) (pr x) ≤ v) k) ∧ zmx (D (zse bf (fun x => zmx (D x) (pr x) ≤ v) k ||| 2 ^ zch bf (fun x => zmx (D x) (pr x) ≤ v) k)) (pr (zse bf (fun x => zmx (D x) (pr x) ≤ v) k ||| 2 ^ zch bf (fun x => zmx (D x) (pr x) ≤ v) k)) ≤ v ∧
        ∀ j, j < zch bf (fun x => zmx (D x) (pr x) ≤ v) k → ¬ (zcc bf j (zse bf (fun x => zmx (D x) (pr x) ≤ v) k) ∧ zmx (D (zse bf (fun x => zmx (D x) (pr x) ≤ v) k ||| 2 ^ j)) (pr (zse bf (fun x => zmx (D x) (pr x) ≤ v) k ||| 2 ^ j)) ≤ v)) := by
  have pos := Nat.two_pow_pos m
  have p := zWy_pos hm hV
  have next : ∀ s, s < 2 ^ m → ¬ V s = 0 → W s ≤ v → zcnt (fun i => s.testBit i) m < m → ∀ c, c = zfst (fun j => zcc bf j s ∧ zmx (D (s ||| 2 ^ j)) (pr (s ||| 2 ^ j)) ≤ v) → c < m ∧ zcc bf c s ∧ zmx (D (s ||| 2 ^ c)) (pr (s ||| 2 ^ c)) ≤ v ∧ ∀ j, j < c → ¬ (zcc bf j s ∧ zmx (D (s ||| 2 ^ j)) (pr (s ||| 2 ^ j)) ≤ v) := by
    intro s hs hv hw hc c hc'
    have ne : s < 2 ^ m - 1 := Classical.byContradiction (fun no => by
      rw [show s = 2 ^ m - 1 by omega, zcnt_full m (Nat.le_refl _)] at hc
      omega)
    obtain ⟨i, i1, i2, i3⟩ := z_goes hm hV full hpr hW key ne hv hw
    rw [(key _ (add_lt hs i1) (p.2.1 s i hs i1 i2 hv)).2.2] at i3
    obtain ⟨z1, z2⟩ := zfst_is (P := fun j => zcc bf j s ∧ zmx (D (s ||| 2 ^ j)) (pr (s ||| 2 ^ j)) ≤ v) ⟨i, i2, i3⟩
    rw [← hc'] at z1 z2
    refine ⟨Classical.byContradiction (fun no => z2 i (by omega) ⟨i2, i3⟩), z1.1, z1.2, z2⟩
  intro k
  induction k with
  | zero =>
    intro _
    have c0 : zcnt (fun i => (0 : Nat).testBit i) m = 0 := by
      rw [zcnt_part (a := 0) (b := m) (Nat.zero_le _) (fun k _ _ q => by rw [Nat.zero_testBit] at q; exact Bool.noConfusion q)]
      rfl
    refine ⟨pos, c0, p.1, h0, fun hk => next 0 pos p.1 h0 (by rw [c0]; exact hk) _ rfl⟩
  | succ k ih =>
    intro hk
    obtain ⟨a1, a2, a3, a4, a5⟩ := ih (by omega)
    obtain ⟨b1, b2, b3, b4⟩ := a5 (by omega)
    have s1 := add_lt a1 b1
    have s3 := p.2.1 _ _ a1 b1 b2 a3
    have s2 := zcnt_add b2.1 b1
    rw [a2] at s2
    have s4 : W (zse bf (fun x => zmx (D x) (pr x) ≤ v) k ||| 2 ^ zch bf (fun x => zmx (D x) (pr x) ≤ v) k) ≤ v := by
      rw [(key _ s1 s3).2.2]
      exact b3
    exact ⟨s1, s2, s3, s4, fun hk' => next _ s1 s3 s4 (by rw [s2]; exact hk') _ rfl⟩
