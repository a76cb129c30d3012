theorem zwt_keep {bf : Nat → Int32} {V V' : Nat → Int64} {s t : Nat} (hs : s ≤ t) (e : ∀ x, x ≠ t → V' x = V x) (i : Nat) : zwt bf V' s i = zwt bf V s i := by
  by_cases q : s.testBit i = true ∧ zcc bf i (s ^^^ 2 ^ i)
  · have := del_less q.1
    rw [zwt_y q, zwt_y q, e _ (by omega)]
  · rw [zwt_n q, zwt_n q]
/-- the model's ways -/
theorem m_ways {G : Gp} {Q : zPost} {S : zSh} {I : zFI} {L : zFL} {m : Nat} {v1 v2 v4 : Int32} (hS : zStd S) (hm : m ≤ 16) (h0 : I 84 66 = nI m) (one : L 130 0 = 1) (q : ∀ L', (∀ b, b ≠ 130 → L' b = L b) → zWy (I 128) m (L' 130) → Q none S I L') : ZW G mX12_findRaisings fX12_findRaisings lX12_findRaisings 374 [zo G 84, .int v1, .int v2, .int (nI (2 ^ m - 1)), .int v4, .int (nI 1), .null, .null] [] S I L 0 0 Q := by
  have h16 := p16 hm
  have pos := Nat.two_pow_pos m
  have main : ∀ (k t : Nat) (M : zFL), t + k = 2 ^ m → 1 ≤ t → (∀ b, b ≠ 130 → M b = L b) → M 130 0 = 1 → (∀ s, 0 < s → s < t → M 130 s = sL (zwt (I 128) (M 130) s) m) → ZW G mX12_findRaisings fX12_findRaisings lX12_findRaisings 374 [zo G 84, .int v1, .int v2, .int (nI (2 ^ m - 1)), .int v4, .int (nI t), .null, .null] [] S I M 0 0 Q := by
    intro k
    induction k with
    | zero =>
      intro t M ht t1 m1 m2 m3
      have : t = 2 ^ m := by omega
      rw [this] at m3
      rw [this]
      refine vX12_findRaisings_374 hS ⟨fun _ => q M m1 ⟨m2, m3⟩, fun no => absurd (nI_lt (by omega) (by omega)) no⟩
    | succ k ih =>
      intro t M ht t1 m1 m2 m3
      have tc : (nI t).toNatClampNeg = t := znIc (by omega)
      have inner : ∀ (d j : Nat) (N : zFL), j + d = m → (∀ b, b ≠ 130 → N b = L b) → (∀ s, s ≠ t → N 130 s = M 130 s) → N 130 t = sL (zwt (I 128) (N 130) t) j → ZW G mX12_findRaisings fX12_findRaisings lX12_findRaisings 391 [zo G 84, .int v1, .int v2, .int (nI (2 ^ m - 1)), .int v4, .int (nI t), .int (nI j), .null] [] S I N 0 0 Q := by
        intro d
        induction d with
        | zero =>
          intro j N hj n1 n2 n3
          have : j = m := by omega
          rw [this] at n3
          rw [this]
          refine vX12_findRaisings_391 hS ⟨fun _ => ?_, fun no => ?_⟩
          · rw [nI_1]
            refine ih (t + 1) N (by omega) (by omega) n1 (by rw [n2 0 (by omega)]; exact m2) (fun s s0 s1 => ?_)
            rcases (by omega : s < t ∨ s = t) with c | c
            · rw [n2 s (by omega), m3 s s0 c]
              exact sL_congr m (fun i _ => (zwt_keep (t := t) (by omega) n2 i).symm)
            · rw [c]
              exact n3
          · rw [h0] at no
            exact absurd (Int32.le_refl _) no
        | succ d ihd =>
          intro j N hj n1 n2 n3
          refine vX12_findRaisings_391 hS ⟨fun no => ?_, fun _ => ⟨fun c => ?_, fun c => ?_⟩⟩
          · rw [h0] at no
            exact absurd no (nI_ge (by omega) (by omega))
          · rw [nI_1]
            refine ihd (j + 1) N (by omega) n1 n2 ?_
            show N 130 t = sL (zwt (I 128) (N 130) t) j + zwt (I 128) (N 130) t j
            rw [zwt_n (fun y => c ((zb_test (by omega)).mpr ((zb_nI (by omega) (by omega)).mpr y.1))), Int64.add_zero]
            exact n3
          · have b : t.testBit j = true := (zb_nI (by omega) (by omega)).mp ((zb_test (by omega)).mp c)
            have less := del_less b
            rw [zone_eq, zdel_nI hm (by omega) (by omega) b, tc, znIc (show t ^^^ 2 ^ j < 2147483648 by omega), nI_1]
            have cc := m_can (I := I) (i := j) (s := t ^^^ 2 ^ j) hm (by omega) (by omega)
            refine ⟨fun _ => znIin (by omega) (by omega), fun no => ?_, fun yes => ⟨znIin (by omega) (by omega), znIin (by omega) (by omega), ?_⟩⟩
            · refine ihd (j + 1) N (by omega) n1 n2 ?_
              show N 130 t = sL (zwt (I 128) (N 130) t) j + zwt (I 128) (N 130) t j
              rw [zwt_n (fun y => cc.mp no y.2), Int64.add_zero]
              exact n3
            · have hc := Classical.not_not.mp (fun y => yes (cc.mpr y))
              have ne : ∀ s, s ≠ t → (u2 N 130 t (N 130 t + N 130 (t ^^^ 2 ^ j))) 130 s = N 130 s := fun s hs => u2_ne _ _ _ _ (fun y => hs y.2)
              refine ihd (j + 1) _ (by omega) (fun b hb => ?_) (fun s hs => ?_) ?_
              · rw [← u2_row _ _ _ _ hb]
                exact n1 b hb
              · rw [ne s hs]
                exact n2 s hs
              · show (u2 N 130 t (N 130 t + N 130 (t ^^^ 2 ^ j))) 130 t = sL (zwt (I 128) ((u2 N 130 t (N 130 t + N 130 (t ^^^ 2 ^ j))) 130) t) j + zwt (I 128) ((u2 N 130 t (N 130 t + N 130 (t ^^^ 2 ^ j))) 130) t j
                rw [sL_congr (g := zwt (I 128) (N 130) t) j (fun i _ => zwt_keep (t := t) (Nat.le_refl _) ne i), zwt_keep (t := t) (Nat.le_refl _) ne j, zwt_y ⟨b, hc⟩, ← n3]
                exact u2_same _ _ _ _
      refine vX12_findRaisings_374 hS ⟨fun no => ?_, fun _ => ⟨znIin (by omega) (by omega), ?_⟩⟩
      · rw [zlt, znI (by omega), znI (by omega)] at no
        omega
      · rw [tc]
        refine inner m 0 _ (by omega) (fun b hb => ?_) (fun s hs => ?_) ?_
        · rw [← u2_row _ _ _ _ hb]
          exact m1 b hb
        · rw [u2_ne _ _ _ _ (fun y => hs y.2)]
        · exact u2_same _ _ _ _
  exact main (2 ^ m - 1) 1 L (by omega) (by omega) (fun _ _ => rfl) one (fun s h1 h2 => by omega)
