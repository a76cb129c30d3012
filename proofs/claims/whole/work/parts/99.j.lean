/-! the fewest props from a set on, by the model -/
def zmx (a b : Int32) : Int32 := if a ≤ b then b else a
def zmi (a b : Int32) : Int32 := if a ≤ b then a else b
noncomputable def zmf (bf D pr : Nat → Int32) (s : Nat) : Nat → Int32
  | 0 => 1000000
  | j + 1 => @ite _ (zcc bf j s ∧ ¬ D (s ||| 2 ^ j) = 1000000) (Classical.propDecidable _) (zmi (zmf bf D pr s j) (zmx (D (s ||| 2 ^ j)) (pr (s ||| 2 ^ j)))) (zmf bf D pr s j)
theorem zmf_y {bf D pr : Nat → Int32} {s j : Nat} (h : zcc bf j s ∧ ¬ D (s ||| 2 ^ j) = 1000000) : zmf bf D pr s (j + 1) = zmi (zmf bf D pr s j) (zmx (D (s ||| 2 ^ j)) (pr (s ||| 2 ^ j))) := @if_pos _ (Classical.propDecidable _) h _ _ _
theorem zmf_n {bf D pr : Nat → Int32} {s j : Nat} (h : ¬ (zcc bf j s ∧ ¬ D (s ||| 2 ^ j) = 1000000)) : zmf bf D pr s (j + 1) = zmf bf D pr s j := @if_neg _ (Classical.propDecidable _) h _ _ _
theorem zmf_keep {bf D D' pr : Nat → Int32} {s : Nat} (e : ∀ x, s < x → D' x = D x) : ∀ j, zmf bf D' pr s j = zmf bf D pr s j := by
  intro j
  induction j with
  | zero => rfl
  | succ j ih =>
    by_cases c : zcc bf j s
    · have gt := add_gt c.1
      by_cases d : D (s ||| 2 ^ j) = 1000000
      · rw [zmf_n (fun q => q.2 d), zmf_n (fun q => q.2 (by rw [e _ gt]; exact d)), ih]
      · rw [zmf_y ⟨c, d⟩, zmf_y ⟨c, by rw [e _ gt]; exact d⟩, ih, e _ gt]
    · rw [zmf_n (fun q => c q.1), zmf_n (fun q => c q.1), ih]
def zMs (bf : Nat → Int32) (m : Nat) (D pr : Nat → Int32) : Prop := D (2 ^ m - 1) = 0 ∧ ∀ s, s < 2 ^ m - 1 → D s = zmf bf D pr s m
noncomputable def zpr (mt : Nat → Int32) (hold : Int32) (m s : Nat) : Int32 := nI (zcnt (zpp mt hold (nI s)) m)
theorem nI_pre (k : Nat) : nI (k + 1) - 1 = nI k := by
  rw [← nI_1]
  exact Int32.add_sub_cancel _ _
theorem nI_dec (k : Nat) : nI (k + 1) + (-1) = nI k := by
  rw [← nI_pre k, Int32.sub_eq_add_neg]
theorem m_most {G : Gp} {Q : zPost} {S : zSh} {I : zFI} {L : zFL} {m : Nat} {v1 v2 hold : Int32} (hS : zStd S) (hm : m ≤ 16) (h0 : I 84 66 = nI m) (z : I 129 (2 ^ m - 1) = 0)
    (q : ∀ J, (∀ b, b ≠ 129 → J b = I b) → zMs (I 128) m (J 129) (zpr (I 127) hold m) → ZW G mX12_findRaisings fX12_findRaisings lX12_findRaisings 374 [zo G 84, .int v1, .int v2, .int (nI (2 ^ m - 1)), .int hold, .int 1, .null, .null] [] S J (u2 L 130 0 1) 0 0 Q) :
    ZW G mX12_findRaisings fX12_findRaisings lX12_findRaisings 226 [zo G 84, .int v1, .int v2, .int (nI (2 ^ m - 1)), .int hold, .int (nI (2 ^ m - 1) + (-1)), .null, .null] [] S I L 0 0 Q := by
  have h16 := p16 hm
  have pos := Nat.two_pow_pos m
  have main : ∀ (k : Nat) (J : zFI), k ≤ 2 ^ m - 1 → (∀ b, b ≠ 129 → J b = I b) → J 129 (2 ^ m - 1) = 0 → (∀ s, k ≤ s → s < 2 ^ m - 1 → J 129 s = zmf (I 128) (J 129) (zpr (I 127) hold m) s m) → ZW G mX12_findRaisings fX12_findRaisings lX12_findRaisings 226 [zo G 84, .int v1, .int v2, .int (nI (2 ^ m - 1)), .int hold, .int (nI k + (-1)), .null, .null] [] S J L 0 0 Q := by
    intro k
    induction k with
    | zero =>
      intro J _ j1 j2 j3
      refine vX12_findRaisings_226 hS ⟨fun _ => q J j1 ⟨j2, fun s hs => j3 s (Nat.zero_le _) hs⟩, fun no => absurd (by decide) no⟩
    | succ k ih =>
      intro J hk j1 j2 j3
      rw [nI_dec]
      have kc : (nI k).toNatClampNeg = k := znIc (by omega)
      have inner : ∀ (d j : Nat) (K : zFI), j + d = m → (∀ b, b ≠ 129 → K b = I b) → (∀ s, k < s → K 129 s = J 129 s) → K 129 k = zmf (I 128) (J 129) (zpr (I 127) hold m) k j → ZW G mX12_findRaisings fX12_findRaisings lX12_findRaisings 244 [zo G 84, .int v1, .int v2, .int (nI (2 ^ m - 1)), .int hold, .int (nI k), .int (nI j), .null] [] S K L 0 0 Q := by
        intro d
        induction d with
        | zero =>
          intro j K hj k1 k2 k3
          have : j = m := by omega
          rw [this] at k3
          rw [this]
          refine vX12_findRaisings_244 hS ⟨fun _ => ?_, fun no => ?_⟩
          · refine ih K (by omega) k1 (by rw [k2 _ (by omega)]; exact j2) (fun s s0 s1 => ?_)
            rcases (by omega : k < s ∨ s = k) with c | c
            · rw [k2 s c, j3 s (by omega) s1]
              exact (zmf_keep (fun x hx => k2 x (by omega)) m).symm
            · rw [c, k3]
              exact (zmf_keep (fun x hx => k2 x hx) m).symm
          · rw [k1 84 (by omega), h0] at no
            exact absurd (Int32.le_refl _) no
        | succ d ihd =>
          intro j K hj k1 k2 k3
          have cc := m_can (I := K) (i := j) (s := k) hm (by omega) (by omega)
          rw [k1 128 (by omega)] at cc
          have lt := add_lt (s := k) (i := j) (m := m) (by omega) (by omega)
          refine vX12_findRaisings_244 hS ⟨fun no => ?_, fun _ => ⟨fun _ => znIin (by omega) (by omega), ?_⟩⟩
          · rw [k1 84 (by omega), h0] at no
            exact absurd no (nI_ge (by omega) (by omega))
          · rw [zone_eq, zor_nI hm (by omega) (by omega), nI_1, kc, znIc (show k ||| 2 ^ j < 2147483648 by omega)]
            refine ⟨fun no => ?_, fun yes => ⟨znIin (by omega) (by omega), fun much => ?_, fun much => ?_⟩⟩
            · refine ihd (j + 1) K (by omega) k1 k2 ?_
              rw [zmf_n (fun y => cc.mp no y.1)]
              exact k3
            · have hc := Classical.not_not.mp (fun y => yes (cc.mpr y))
              have gt := add_gt hc.1
              rw [k2 _ gt] at much
              have step : zmf (I 128) (J 129) (zpr (I 127) hold m) k (j + 1) = zmi (K 129 k) (zmx (K 129 (k ||| 2 ^ j)) (zpr (I 127) hold m (k ||| 2 ^ j))) := by
                rw [zmf_y ⟨hc, much⟩, k3, k2 _ gt]
              refine m_props hS hm (by rw [k1 84 (by omega)]; exact h0) ⟨_, rfl, rfl, ?_⟩
              rw [k1 127 (by omega)]
              have kin : vp_in (nI k) 65536 := znIin (by omega) (by omega)
              have put : ∀ v, v = zmf (I 128) (J 129) (zpr (I 127) hold m) k (j + 1) → ZW G mX12_findRaisings fX12_findRaisings lX12_findRaisings 244 [zo G 84, .int v1, .int v2, .int (nI (2 ^ m - 1)), .int hold, .int (nI k), .int (nI (j + 1)), .null] [] S (u2 K 129 k v) L 0 0 Q := fun v hv => by
                refine ihd (j + 1) _ (by omega) (fun b hb => ?_) (fun s hs => ?_) ?_
                · rw [← u2_row _ _ _ _ hb]
                  exact k1 b hb
                · rw [u2_ne _ _ _ _ (by omega)]
                  exact k2 s hs
                · rw [u2_same]
                  exact hv
              refine ⟨fun a => ⟨kin, fun b => ?_, fun b => ?_⟩, fun a => ⟨kin, fun b => ?_, fun b => ?_⟩⟩
              · refine ihd (j + 1) K (by omega) k1 k2 ?_
                rw [step]
                unfold zmx zmi zpr
                rw [if_pos a, if_pos b]
              · refine put _ ?_
                rw [step]
                unfold zmx zmi zpr
                rw [if_pos a, if_neg b]
              · refine ihd (j + 1) K (by omega) k1 k2 ?_
                rw [step]
                unfold zmx zmi zpr
                rw [if_neg a, if_pos b]
              · refine put _ ?_
                rw [step]
                unfold zmx zmi zpr
                rw [if_neg a, if_neg b]
            · refine ihd (j + 1) K (by omega) k1 k2 ?_
              rw [zmf_n (fun y => y.2 ?_)]
              · exact k3
              · rw [← k2 _ (add_gt y.1.1)]
                exact much
      refine vX12_findRaisings_226 hS ⟨fun no => absurd no (nI_pos (by omega)), fun _ => ⟨znIin (by omega) (by omega), ?_⟩⟩
      rw [kc]
      refine inner m 0 _ (by omega) (fun b hb => ?_) (fun s hs => ?_) ?_
      · rw [← u2_row _ _ _ _ hb]
        exact j1 b hb
      · rw [u2_ne _ _ _ _ (by omega)]
      · exact u2_same _ _ _ _
  exact main (2 ^ m - 1) I (Nat.le_refl _) (fun _ _ => rfl) z (fun s h1 h2 => by omega)
