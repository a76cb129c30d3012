theorem zwf_keep {bf W W' : Nat → Int32} {s : Nat} (e : ∀ x, s < x → W' x = W x) : ∀ j, zwf bf W' s j = zwf bf W s j := by
  intro j
  induction j with
  | zero => rfl
  | succ j ih =>
    by_cases c : zcc bf j s
    · rw [zwf_y c, zwf_y c, ih, e _ (add_gt c.1)]
    · rw [zwf_n c, zwf_n c, ih]
theorem byte_16 {x : Int32} (h0 : 0 ≤ x.toInt) (h1 : x.toInt ≤ 16) : x.toInt8.toInt32 = x := by
  have : ∀ k : Fin 17, (nI k.1).toInt8.toInt32 = nI k.1 := by decide +kernel
  obtain ⟨n, hn, e⟩ := zof (x := x) (zle.mpr h0)
  rw [e, znI hn] at h1
  have := this ⟨n, by omega⟩
  rw [e]
  exact this
theorem zpr_16 (mt : Nat → Int32) (hold : Int32) {m : Nat} (hm : m ≤ 16) (s : Nat) : 0 ≤ (zpr mt hold m s).toInt ∧ (zpr mt hold m s).toInt ≤ 16 := by
  have := zcnt_le (zpp mt hold (nI s)) m
  unfold zpr
  rw [znI (by omega)]
  omega
theorem zmx_lt (a b : Int32) : (if a < b then b else a) = zmx a b := by
  unfold zmx
  by_cases c : a < b
  · rw [if_pos c, if_pos (Int32.le_of_lt c)]
  · rw [if_neg c]
    by_cases d : a ≤ b
    · rw [if_pos d]
      exact Int32.le_antisymm d (Int32.not_lt.mp c)
    · rw [if_neg d]
theorem c_measureWorst {G : Gp} {Q : zPost} {S : zSh} {I : zFI} {L : zFL} {m : Nat} {hold : Int32} (hS : zStd S) (hm : m ≤ 16) (h0 : I 60 0 = nI m) (room : 2 ^ m ≤ zwl S) (need : ∀ x, x < m → ∀ r : Int32, I 64 x ≤ r ↔ hold ≤ r ∨ nI (zpc (I 62 x)) ≤ r) (hV : zWy (I 63) m (L (zwy S))) (hg : zGa I m)
    (q : ∀ I', (∀ b, b ≠ zwo S → I' b = I b) → I' (zwo S) (2 ^ m - 1) = 0 → (∀ s, s < 2 ^ m - 1 → ¬ L (zwy S) s = 0 → I' (zwo S) s = zmx (zwf (I 63) (I' (zwo S)) s m) (zpr (I 62) hold m s)) → Q none S I' L) : ZC G mX7_measureWorst fX7_measureWorst lX7_measureWorst [zo G 60] S I L 0 0 Q := by
  have h16 := p16 hm
  have l16 : zwl S ≤ 65536 := hS.gr.2.2.2.2.2.2.2.2
  have wo : zwo S = 66 ∨ 140 ≤ zwo S := hS.gr.2.2.2.2.2.1
  have pos := Nat.two_pow_pos m
  have p := zWy_pos hm hV
  have main : ∀ (k : Nat) (J : zFI), k ≤ 2 ^ m - 1 → (∀ b, b ≠ zwo S → J b = I b) → J (zwo S) (2 ^ m - 1) = 0 → (∀ s, k ≤ s → s < 2 ^ m → ¬ L (zwy S) s = 0 → 0 ≤ (J (zwo S) s).toInt ∧ (J (zwo S) s).toInt ≤ 16) → (∀ s, k ≤ s → s < 2 ^ m - 1 → ¬ L (zwy S) s = 0 → J (zwo S) s = zmx (zwf (I 63) (J (zwo S)) s m) (zpr (I 62) hold m s)) → ZW G mX7_measureWorst fX7_measureWorst lX7_measureWorst 20 [zo G 60, .int (nI (2 ^ m - 1)), .int (nI k + (-1)), .null, .null] [] S J L 0 0 Q := by
    intro k
    induction k with
    | zero =>
      intro J _ j1 j2 j3 j4
      refine vX7_measureWorst_20 hS ⟨fun _ => q J j1 j2 (fun s hs hv => j4 s (Nat.zero_le _) hs hv), fun no => absurd (by decide) no⟩
    | succ k ih =>
      intro J hk j1 j2 j3 j4
      rw [nI_dec]
      have kc : (nI k).toNatClampNeg = k := znIc (by omega)
      have j60 : J 60 0 = nI m := by rw [j1 60 (by omega)]; exact h0
      refine vX7_measureWorst_20 hS ⟨fun no => absurd no (nI_pos (by omega)), fun _ => ⟨znIin (by omega) (by omega), fun nz => ?_, fun z => ?_⟩⟩
      · rw [kc] at nz
        have hv : ¬ L (zwy S) k = 0 := fun y => nz (lgz.mpr y)
        have inner : ∀ (d j : Nat), j + d = m → 0 ≤ (zwf (I 63) (J (zwo S)) k j).toInt → (zwf (I 63) (J (zwo S)) k j).toInt ≤ 16 → ZW G mX7_measureWorst fX7_measureWorst lX7_measureWorst 44 [zo G 60, .int (nI (2 ^ m - 1)), .int (nI k), .int (zwf (I 63) (J (zwo S)) k j), .int (nI j)] [] S J L 0 0 Q := by
          intro d
          induction d with
          | zero =>
            intro j hj b1 b2
            have : j = m := by omega
            rw [this] at b1 b2
            rw [this]
            refine vX7_measureWorst_44 hS ⟨fun _ => c_props (m := m) (hold := hold) hS hm j60 (by rw [j1 64 (by omega), j1 62 (by omega)]; exact need) ⟨_, rfl, rfl, znIin (by omega) (by omega), ?_⟩, fun no => ?_⟩
            · rw [j1 62 (by omega), kc, zmx_lt]
              have pb := zpr_16 (I 62) hold hm k
              have mb : 0 ≤ (zmx (zwf (I 63) (J (zwo S)) k m) (zpr (I 62) hold m k)).toInt ∧ (zmx (zwf (I 63) (J (zwo S)) k m) (zpr (I 62) hold m k)).toInt ≤ 16 := by
                rw [zmx_toInt]
                split <;> omega
              have e : zmx (zwf (I 63) (J (zwo S)) k m) (nI (zcnt (zpp (I 62) hold (nI k)) m)) = zmx (zwf (I 63) (J (zwo S)) k m) (zpr (I 62) hold m k) := rfl
              rw [e, byte_16 mb.1 mb.2]
              refine ih _ (by omega) (fun b hb => ?_) ?_ (fun s s0 s1 sv => ?_) (fun s s0 s1 sv => ?_)
              · rw [← u2_row _ _ _ _ hb]
                exact j1 b hb
              · rw [u2_ne _ _ _ _ (by omega)]
                exact j2
              · rcases (by omega : k < s ∨ s = k) with c | c
                · rw [u2_ne _ _ _ _ (by omega)]
                  exact j3 s (by omega) s1 sv
                · rw [c, u2_same]
                  exact mb
              · have keep : ∀ s', k ≤ s' → zwf (I 63) ((u2 J (zwo S) k (zmx (zwf (I 63) (J (zwo S)) k m) (zpr (I 62) hold m k))) (zwo S)) s' m = zwf (I 63) (J (zwo S)) s' m := fun s' hs' => zwf_keep (fun x hx => u2_ne _ _ _ _ (by omega)) m
                rcases (by omega : k < s ∨ s = k) with c | c
                · rw [u2_ne _ _ _ _ (by omega), j4 s (by omega) s1 sv, keep s s0]
                · rw [c, u2_same, keep k (Nat.le_refl _)]
            · rw [j60] at no
              exact absurd (Int32.le_refl _) no
          | succ d ihd =>
            intro j hj b1 b2
            have cc : (nI k &&& J 139 j = J 63 j) ↔ zcc (I 63) j k := by
              rw [j1 139 (by omega), j1 63 (by omega)]
              exact c_can hg hm (by omega) (by omega)
            refine vX7_measureWorst_44 hS ⟨fun no => ?_, fun _ => ⟨znIin (by omega) (by omega), ?_⟩⟩
            · rw [j60] at no
              exact absurd no (nI_ge (by omega) (by omega))
            · have lt := add_lt (s := k) (i := j) (m := m) (by omega) (by omega)
              rw [zone_eq, zor_nI hm (by omega) (by omega), nI_1, znIc (show k ||| 2 ^ j < 2147483648 by omega), znIc (show j < 2147483648 by omega)]
              refine ⟨fun no => ?_, fun yes => ⟨znIin (by omega) (by omega), fun c => ?_, fun c => ?_⟩⟩
              · have i1 := ihd (j + 1) (by omega)
                rw [zwf_n (fun y => no (cc.mpr y))] at i1
                exact i1 b1 b2
              · have hc := cc.mp yes
                have i1 := ihd (j + 1) (by omega)
                rw [zwf_y hc, if_neg (Int32.not_lt.mpr c)] at i1
                exact i1 b1 b2
              · have hc := cc.mp yes
                have gt := add_gt hc.1
                have r := j3 (k ||| 2 ^ j) (by omega) lt (p.2.1 k j (by omega) (by omega) hc hv)
                have i1 := ihd (j + 1) (by omega)
                rw [zwf_y hc, if_pos (Int32.not_le.mp c)] at i1
                exact i1 r.1 r.2
        exact inner m 0 (by omega) (show 0 ≤ (16 : Int32).toInt by decide) (show (16 : Int32).toInt ≤ 16 by decide)
      · rw [kc] at z
        have hz := lgz.mp z
        refine ih J (by omega) j1 j2 (fun s s0 s1 sv => j3 s ?_ s1 sv) (fun s s0 s1 sv => j4 s ?_ s1 sv)
        · exact Classical.byContradiction (fun y => sv (by rw [show s = k by omega]; exact hz))
        · exact Classical.byContradiction (fun y => sv (by rw [show s = k by omega]; exact hz))
  have e1 : (1 : Int32) <<< (nI m &&& 31) - 1 = nI (2 ^ m - 1) := by
    rw [zone_eq, zone_nI hm]
    have := nI_pre (2 ^ m - 1)
    rw [show 2 ^ m - 1 + 1 = 2 ^ m by omega] at this
    exact this
  have fc : (nI (2 ^ m - 1)).toNatClampNeg = 2 ^ m - 1 := znIc (by omega)
  refine ZC.of' (vX7_measureWorst_0 hS ?_) rfl (Nat.le_of_ble_eq_true rfl) rfl
  rw [h0, e1, fc]
  refine ⟨znIin (by omega) (by omega), ?_⟩
  rw [Int32.sub_eq_add_neg]
  refine main (2 ^ m - 1) _ (Nat.le_refl _) (fun b hb => (u2_row _ _ _ _ hb).symm) (u2_same _ _ _ _) (fun s s0 s1 _ => ?_) (fun s s0 s1 => by omega)
  rw [show s = 2 ^ m - 1 by omega, u2_same]
  exact ⟨by decide, by decide⟩
