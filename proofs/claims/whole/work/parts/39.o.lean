def zby (v : Int32) (i : Nat) : Int32 := (v >>> (nI (24 - 8 * i) &&& 31)) &&& 255
def zsh (i : Nat) : Int32 := if i < 4 then nI (24 - 8 * i) else -8
theorem tN (x : Int32) : (x.toBitVec.toNat : Int) = x.toInt ∨ (x.toBitVec.toNat : Int) = x.toInt + 4294967296 := by
  have h : x.toInt = x.toBitVec.toInt := rfl
  rw [h, BitVec.toInt_eq_toNat_cond]
  split
  · exact Or.inl rfl
  · right; simp
theorem bsh {v s : Int32} {k : Nat} (hk : k ≤ 24) (h1 : (s.toBitVec.smod 32).toNat = k) (h2 : ((s.toUInt32 &&& Int32.toUInt32 31).toBitVec % 32).toNat = k) (hs : s &&& 31 = s) : (v.toUInt32 >>> (s.toUInt32 &&& Int32.toUInt32 31)).toInt32 &&& 255 = (v >>> (s &&& 31)) &&& 255 := by
  rw [hs, pk_and _ 8 rfl, pk_and (v >>> s) 8 rfl]
  congr 1
  rw [pk_ushr v s k h2]
  have a := pk_shr v s k h1
  have a : (v >>> s).toInt = v.toInt / 2 ^ k := by
    rw [a, Int.shiftRight_eq_div_pow]
    congr 1
  have b := tN (v >>> s)
  have c := tN v
  have d : (2 : Int) ^ k ∣ 16777216 := ⟨2 ^ (24 - k), by rw [← Int.pow_add]; rw [show k + (24 - k) = 24 by omega]; rfl⟩
  have hp : (0 : Int) < 2 ^ k := Int.pow_pos (by decide)
  obtain ⟨q, hq⟩ := d
  have e : ((v.toBitVec.toNat / 2 ^ k : Nat) : Int) = (v.toBitVec.toNat : Int) / 2 ^ k := by simp
  have e2 : ∀ z : Int, (z + 4294967296) / 2 ^ k = z / 2 ^ k + 256 * q := by
    intro z
    rw [show (4294967296 : Int) = (256 * q) * 2 ^ k by rw [Int.mul_assoc, Int.mul_comm q, ← hq]; rfl]
    exact Int.add_mul_ediv_right _ _ (by omega)
  have f : ((v.toBitVec.toNat / 2 ^ k : Nat) : Int) % 256 = ((v >>> s).toBitVec.toNat : Int) % 256 := by
    rw [e]
    rcases c with c | c <;> rcases b with b | b <;> rw [b, c, a] <;> (try rw [e2]) <;> omega
  omega
theorem zbyU (v : Int32) {i : Nat} (hi : i < 4) : (v.toUInt32 >>> ((zsh i).toUInt32 &&& Int32.toUInt32 31)).toInt32 &&& 255 = zby v i := by
  rcases (by omega : i = 0 ∨ i = 1 ∨ i = 2 ∨ i = 3) with rfl | rfl | rfl | rfl
  · exact bsh (k := 24) (by decide) (by decide) (by decide) (by decide)
  · exact bsh (k := 16) (by decide) (by decide) (by decide) (by decide)
  · exact bsh (k := 8) (by decide) (by decide) (by decide) (by decide)
  · exact bsh (k := 0) (by decide) (by decide) (by decide) (by decide)
theorem zbyS (v : Int32) {i : Nat} (hi : i < 4) : (v >>> (zsh i &&& 31)) &&& 255 = zby v i := by
  unfold zsh zby
  rw [if_pos hi]
theorem zby_r (v : Int32) (i : Nat) : 0 ≤ zby v i ∧ zby v i ≤ 255 := by
  unfold zby
  rw [pk_and _ 8 rfl]
  constructor
  · exact nI_pos' (by omega)
  · exact nI_le (b := 255) (by omega) (by omega)
theorem zsh_p {i : Nat} (hi : i < 4) : ¬ zsh i < 0 ∧ zsh i + (-8) = zsh (i + 1) := by
  rcases (by omega : i = 0 ∨ i = 1 ∨ i = 2 ∨ i = 3) with rfl | rfl | rfl | rfl <;> decide
theorem c_push {G : Gp} {Q : zPost} {S : zSh} {I : zFI} {L : zFL} {v : Int32} {tl : Nat} (hS : zStd S) (t1 : I 1 1 = nI tl) (t2 : tl + 4 ≤ 800)
    (h : ∀ I', (∀ b, b ≠ 1 → b ≠ 2 → I' b = I b) → I' 1 1 = nI (tl + 4) → (∀ k, k < tl → I' 2 k = I 2 k) → (∀ i, i < 4 → I' 2 (tl + i) = zby v i) → Q none S I' L) :
    ZC G mX9_push fX9_push lX9_push [zo G 1, .int v] S I L 0 0 Q := by
  have key : ∀ (k i : Nat) (I1 : zFI), i + k = 4 → (∀ b, b ≠ 1 → b ≠ 2 → I1 b = I b) → I1 1 1 = nI (tl + i) → (∀ k, k < tl → I1 2 k = I 2 k) → (∀ j, j < i → I1 2 (tl + j) = zby v j) →
      ZW G mX9_push fX9_push lX9_push 3 [zo G 1, .int v, .int (zsh i)] [] S I1 L 0 0 Q := by
    intro k
    induction k with
    | zero =>
      intro i I1 hi g1 g2 g3 g4
      have : i = 4 := by omega
      subst this
      exact vX9_push_3 hS ⟨fun _ => h I1 g1 g2 g3 g4, fun hc => absurd (by decide) hc⟩
    | succ k ih =>
      intro i I1 hi g1 g2 g3 g4
      obtain ⟨p1, p2⟩ := zsh_p (i := i) (by omega)
      refine vX9_push_3 hS ⟨fun hc => absurd hc p1, fun _ => ⟨fun hc => ?_, fun hc => ⟨?_, ?_⟩⟩⟩
      · rw [g2] at hc
        exact absurd hc (show ¬ (800 : Int32) ≤ nI (tl + i) from nI_ge (b := 800) (by omega) (by omega))
      · rw [g2]
        exact znIin (by omega) (by decide)
      · rw [p2, zbyU v (by omega), g2, znIc (by omega), nI_1]
        refine ih (i + 1) _ (by omega) (fun b h1 h2 => ?_) rfl (fun k hk => ?_) (fun j hj => ?_)
        · rw [← u2_row _ _ _ _ h1, ← u2_row _ _ _ _ h2]
          exact g1 b h1 h2
        · rw [u2_ne _ _ _ _ (by omega), u2_ne _ _ _ _ (by omega)]
          exact g3 k hk
        · rw [u2_ne _ _ _ _ (by omega)]
          by_cases hji : j = i
          · subst hji
            exact u2_same _ _ _ _
          · rw [u2_ne _ _ _ _ (by omega)]
            exact g4 j (by omega)
  exact ZC.of' (vX9_push_0 hS (key 4 0 I (by omega) (fun _ _ _ => rfl) t1 (fun _ _ => rfl) (fun j hj => absurd hj (Nat.not_lt_zero _)))) rfl (Nat.le_of_ble_eq_true rfl) rfl
theorem m_puts {G : Gp} {Q : zPost} {S : zSh} {I : zFI} {L : zFL} {v : Int32} {tl : Nat} (hS : zStd S) (t1 : I 84 26 = nI tl) (t2 : tl + 4 ≤ 800)
    (h : ∀ I', (∀ b, b ≠ 84 → b ≠ 104 → I' b = I b) → (∀ j, j ≠ 26 → I' 84 j = I 84 j) → I' 84 26 = nI (tl + 4) → (∀ k, k < tl → I' 104 k = I 104 k) → (∀ i, i < 4 → I' 104 (tl + i) = zby v i) → Q none S I' L) :
    ZC G mX12_puts fX12_puts lX12_puts [zo G 84, .int v] S I L 0 0 Q := by
  have key : ∀ (k i : Nat) (I1 : zFI), i + k = 4 → (∀ b, b ≠ 84 → b ≠ 104 → I1 b = I b) → (∀ j, j ≠ 26 → I1 84 j = I 84 j) → I1 84 26 = nI (tl + i) → (∀ k, k < tl → I1 104 k = I 104 k) → (∀ j, j < i → I1 104 (tl + j) = zby v j) →
      ZW G mX12_puts fX12_puts lX12_puts 3 [zo G 84, .int v, .int (zsh i)] [] S I1 L 0 0 Q := by
    intro k
    induction k with
    | zero =>
      intro i I1 hi g1 g0 g2 g3 g4
      have : i = 4 := by omega
      subst this
      exact vX12_puts_3 hS ⟨fun _ => h I1 g1 g0 g2 g3 g4, fun hc => absurd (by decide) hc⟩
    | succ k ih =>
      intro i I1 hi g1 g0 g2 g3 g4
      obtain ⟨p1, p2⟩ := zsh_p (i := i) (by omega)
      refine vX12_puts_3 hS ⟨fun hc => absurd hc p1, fun _ => ⟨?_, ?_⟩⟩
      · rw [g2]
        exact znIin (by omega) (by decide)
      · rw [p2, zbyS v (by omega), g2, znIc (by omega), nI_1]
        refine ih (i + 1) _ (by omega) (fun b h1 h2 => ?_) (fun j hj => ?_) rfl (fun k hk => ?_) (fun j hj => ?_)
        · rw [← u2_row _ _ _ _ h1, ← u2_row _ _ _ _ h2]
          exact g1 b h1 h2
        · rw [u2_ne _ _ _ _ (by omega), u2_ne _ _ _ _ (by omega)]
          exact g0 j hj
        · rw [u2_ne _ _ _ _ (by omega), u2_ne _ _ _ _ (by omega)]
          exact g3 k hk
        · rw [u2_ne _ _ _ _ (by omega)]
          by_cases hji : j = i
          · subst hji
            exact u2_same _ _ _ _
          · rw [u2_ne _ _ _ _ (by omega)]
            exact g4 j (by omega)
  exact ZC.of' (vX12_puts_0 hS (key 4 0 I (by omega) (fun _ _ _ => rfl) (fun _ _ => rfl) t1 (fun _ _ => rfl) (fun j hj => absurd hj (Nat.not_lt_zero _)))) rfl (Nat.le_of_ble_eq_true rfl) rfl
/-- the twenty bytes of a feed -/
def zf5 (v1 v2 v3 v4 v5 : Int32) (j : Nat) : Int32 := zby (if j < 4 then v1 else if j < 8 then v2 else if j < 12 then v3 else if j < 16 then v4 else v5) (j % 4)
theorem zf5_of {v1 v2 v3 v4 v5 : Int32} {f : Nat → Int32} (h1 : ∀ i, i < 4 → f i = zby v1 i) (h2 : ∀ i, i < 4 → f (4 + i) = zby v2 i) (h3 : ∀ i, i < 4 → f (8 + i) = zby v3 i) (h4 : ∀ i, i < 4 → f (12 + i) = zby v4 i) (h5 : ∀ i, i < 4 → f (16 + i) = zby v5 i) :
    ∀ j, j < 20 → f j = zf5 v1 v2 v3 v4 v5 j := by
  intro j hj
  unfold zf5
  by_cases c1 : j < 4
  · rw [if_pos c1, h1 j c1, Nat.mod_eq_of_lt c1]
  · rw [if_neg c1]
    by_cases c2 : j < 8
    · rw [if_pos c2]
      have := h2 (j - 4) (by omega)
      rw [show 4 + (j - 4) = j by omega] at this
      rw [this, show j % 4 = j - 4 by omega]
    · rw [if_neg c2]
      by_cases c3 : j < 12
      · rw [if_pos c3]
        have := h3 (j - 8) (by omega)
        rw [show 8 + (j - 8) = j by omega] at this
        rw [this, show j % 4 = j - 8 by omega]
      · rw [if_neg c3]
        by_cases c4 : j < 16
        · rw [if_pos c4]
          have := h4 (j - 12) (by omega)
          rw [show 12 + (j - 12) = j by omega] at this
          rw [this, show j % 4 = j - 12 by omega]
        · rw [if_neg c4]
          have := h5 (j - 16) (by omega)
          rw [show 16 + (j - 16) = j by omega] at this
          rw [this, show j % 4 = j - 16 by omega]
set_option maxHeartbeats 1000000 in
theorem op_feed {G : Gp} {S : zSh} {I : zFI} {L : zFL} {n jn mn tl ln on : Nat} {v1 v2 v3 v4 v5 : Int32} (h : iAll S I n jn mn tl ln on) : zOpI G mX11_feed fX11_feed lX11_feed mX12_feed fX12_feed lX12_feed [.int v1, .int v2, .int v3, .int v4, .int v5] S I L 0 0 (fun S' I' L' => S' = S ∧ (∃ tl', iAll S I' n jn mn tl' ln on) ∧ zSameJ I L I' L' jn ∧ I' 0 16 = I 0 16) := by
  have hT0 := h.told (L := L) 0
  have hT : (∃ tl', iAll S (u2 I 84 0 0) n jn mn tl' ln on) ∧ zSameJ I L (u2 I 84 0 0) L jn ∧ u2 I 84 0 0 0 16 = I 0 16 := ⟨⟨_, hT0.1⟩, hT0.2⟩
  obtain ⟨hS, hNow, hTim, hJnt, hMrk, hShn, hTap, hFlt, hCus, hRng, hLea, hOut, hWrd⟩ := h
  obtain ⟨t1, t2, t3, t4⟩ := id hTap
  have hr0 : p_X9_hasRoomFor I 20 = 0 ↔ 800 < tl + 20 := by
    unfold p_X9_hasRoomFor
    have e : (800 : Int32) < I 1 1 + 20 ↔ 800 < tl + 20 := by
      rw [t1, show (20 : Int32) = nI 20 from rfl, nI_add, show (800 : Int32) = nI 800 from rfl, nI_ltI (by omega) (by omega)]
    by_cases c : (800 : Int32) < I 1 1 + 20
    · rw [if_pos c]
      exact ⟨fun _ => e.mp c, fun _ => rfl⟩
    · rw [if_neg c]
      exact ⟨fun q => absurd q (by decide), fun q => absurd (e.mpr q) c⟩
  refine ZC.of' (vX11_feed_0 hS ⟨fun c1 => ?_, fun c1 => ?_⟩) rfl (Nat.le_of_ble_eq_true rfl) rfl
  · rw [hr0] at c1
    have c2 : tl + 20 ≤ 800 := by omega
    refine c_push hS t1 (by omega) (fun I1 a1 b1 d1 e1 => ⟨rfl, rfl, ?_⟩)
    refine c_push hS b1 (by omega) (fun I2 a2 b2 d2 e2 => ⟨rfl, rfl, ?_⟩)
    refine c_push hS b2 (by omega) (fun I3 a3 b3 d3 e3 => ⟨rfl, rfl, ?_⟩)
    refine c_push hS b3 (by omega) (fun I4 a4 b4 d4 e4 => ⟨rfl, rfl, ?_⟩)
    refine c_push hS b4 (by omega) (fun I5 a5 b5 d5 e5 => ⟨rfl, rfl, _, rfl, ?_⟩)
    have w1 : ∀ b, b ≠ 1 → b ≠ 2 → I5 b = I b := fun b h1 h2 => by rw [a5 b h1 h2, a4 b h1 h2, a3 b h1 h2, a2 b h1 h2, a1 b h1 h2]
    have w2 : ∀ k, k < tl → I5 2 k = I 2 k := fun k hk => by rw [d5 k (by omega), d4 k (by omega), d3 k (by omega), d2 k (by omega), d1 k hk]
    have w3 : ∀ j, j < 20 → I5 2 (tl + j) = zf5 v1 v2 v3 v4 v5 j := by
      refine zf5_of (f := fun j => I5 2 (tl + j)) (fun i hi => ?_) (fun i hi => ?_) (fun i hi => ?_) (fun i hi => ?_) (fun i hi => ?_)
      · show I5 2 (tl + i) = _
        rw [d5 _ (by omega), d4 _ (by omega), d3 _ (by omega), d2 _ (by omega), e1 i hi]
      · show I5 2 (tl + (4 + i)) = _
        rw [d5 _ (by omega), d4 _ (by omega), d3 _ (by omega), ← Nat.add_assoc, e2 i hi]
      · show I5 2 (tl + (8 + i)) = _
        rw [d5 _ (by omega), d4 _ (by omega), show tl + (8 + i) = tl + 4 + 4 + i by omega, e3 i hi]
      · show I5 2 (tl + (12 + i)) = _
        rw [d5 _ (by omega), show tl + (12 + i) = tl + 4 + 4 + 4 + i by omega, e4 i hi]
      · show I5 2 (tl + (16 + i)) = _
        rw [show tl + (16 + i) = tl + 4 + 4 + 4 + 4 + i by omega, e5 i hi]
    have m26 : I5 84 26 = nI tl := by rw [w1 84 (by decide) (by decide)]; exact t3
    refine ZC.of' (vX12_feed_0 hS ⟨fun _ => ?_, fun hc => ?_⟩) rfl (Nat.le_of_ble_eq_true rfl) rfl
    · refine m_puts hS (tl := tl) m26 (by omega) (fun J1 a1 z1 b1 d1 e1 => ⟨rfl, rfl, ?_⟩)
      refine m_puts hS b1 (by omega) (fun J2 a2 z2 b2 d2 e2 => ⟨rfl, rfl, ?_⟩)
      refine m_puts hS b2 (by omega) (fun J3 a3 z3 b3 d3 e3 => ⟨rfl, rfl, ?_⟩)
      refine m_puts hS b3 (by omega) (fun J4 a4 z4 b4 d4 e4 => ⟨rfl, rfl, ?_⟩)
      refine m_puts hS b4 (by omega) (fun J5 a5 z5 b5' d5 e5 => ⟨rfl, rfl, ?_, rfl, ?_⟩)
      · rw [b5', show p_X9_size I5 = nI (tl + 4 + 4 + 4 + 4 + 4) from b5]
      · have x1 : ∀ b, b ≠ 84 → b ≠ 104 → J5 b = I5 b := fun b h1 h2 => by rw [a5 b h1 h2, a4 b h1 h2, a3 b h1 h2, a2 b h1 h2, a1 b h1 h2, ← u2_row _ _ _ _ h1]
        have x3 : ∀ j, j < 20 → J5 104 (tl + j) = zf5 v1 v2 v3 v4 v5 j := by
          refine zf5_of (f := fun j => J5 104 (tl + j)) (fun i hi => ?_) (fun i hi => ?_) (fun i hi => ?_) (fun i hi => ?_) (fun i hi => ?_)
          · show J5 104 (tl + i) = _
            rw [d5 _ (by omega), d4 _ (by omega), d3 _ (by omega), d2 _ (by omega), e1 i hi]
          · show J5 104 (tl + (4 + i)) = _
            rw [d5 _ (by omega), d4 _ (by omega), d3 _ (by omega), ← Nat.add_assoc, e2 i hi]
          · show J5 104 (tl + (8 + i)) = _
            rw [d5 _ (by omega), d4 _ (by omega), show tl + (8 + i) = tl + 4 + 4 + i by omega, e3 i hi]
          · show J5 104 (tl + (12 + i)) = _
            rw [d5 _ (by omega), show tl + (12 + i) = tl + 4 + 4 + 4 + i by omega, e4 i hi]
          · show J5 104 (tl + (16 + i)) = _
            rw [show tl + (16 + i) = tl + 4 + 4 + 4 + 4 + i by omega, e5 i hi]
        have x2 : ∀ k, k < tl → J5 104 k = I 104 k := fun k hk => by
          rw [d5 k (by omega), d4 k (by omega), d3 k (by omega), d2 k (by omega), d1 k hk]
          show I5 104 k = I 104 k
          rw [w1 104 (by decide) (by decide)]
        have hr : ∀ b, b ∉ ([1, 2, 84, 104] : List Nat) → J5 b = I b := fun b hb => by
          simp only [List.mem_cons, List.mem_nil_iff, or_false, not_or] at hb
          rw [x1 b hb.2.2.1 hb.2.2.2, w1 b hb.1 hb.2.1]
        have h84 : ∀ k, k ∉ ([0, 26] : List Nat) → J5 84 k = I 84 k := fun k hk => by
          simp only [List.mem_cons, List.mem_nil_iff, or_false, not_or] at hk
          rw [z5 k hk.2, z4 k hk.2, z3 k hk.2, z2 k hk.2, z1 k hk.2, u2_ne _ _ _ _ (by omega), w1 84 (by decide) (by decide)]
        have h0 : ∀ k, k ∉ ([] : List Nat) → J5 0 k = I 0 k := fun k _ => by rw [hr 0 (by decide)]
        refine ⟨⟨tl + 4 + 4 + 4 + 4 + 4, hS, hNow.fr (h0 14 (by decide)) (h0 15 (by decide)) (h84 1 (by decide)) (h84 2 (by decide)), hTim.fr (by rw [h0 14 (by decide)]; exact Int32.le_refl _) (congrFun (hr 10 (by decide)) 0) (h84 3 (by decide)) (hr 11 (by decide)) (hr 12 (by decide)) (hr 13 (by decide)) (hr 85 (by decide)) (hr 86 (by decide)) (hr 87 (by decide)), hJnt.fr (Int32.le_refl _) (by rw [h0 14 (by decide)]; exact Int32.le_refl _) (congrFun (hr 10 (by decide)) 4) (h84 13 (by decide)) (hr 14 (by decide)) (hr 15 (by decide)) (hr 16 (by decide)) (hr 17 (by decide)) (hr 18 (by decide)) (hr 94 (by decide)) (hr 95 (by decide)) (hr 96 (by decide)) (hr 97 (by decide)) (hr 98 (by decide)) (hr 88 (by decide)), hMrk.fr (Int32.le_refl _) (by rw [h0 14 (by decide)]; exact Int32.le_refl _) (congrFun (hr 19 (by decide)) 0) (h84 19 (by decide)) (hr 20 (by decide)) (hr 21 (by decide)) (hr 22 (by decide)) (hr 23 (by decide)) (hr 24 (by decide)) (hr 99 (by decide)) (hr 100 (by decide)) (hr 101 (by decide)) (hr 102 (by decide)) (hr 103 (by decide)), hShn.fr (by unfold p_X11_lastDaySeen; rw [h0 15 (by decide)]) (hr 20 (by decide)) (hr 21 (by decide)) (hr 25 (by decide)), ⟨by rw [x1 1 (by decide) (by decide)]; exact b5, by omega, b5', fun k hk => ?_⟩, hFlt.fr (h84 36 (by decide)) (h84 37 (by decide)) (congrFun (hr 3 (by decide)) 5) (congrFun (hr 3 (by decide)) 6), hCus.fr hS (hr 8 (by decide)) (hr 9 (by decide)) (hr 83 (by decide)) (hr 105 (by decide)), hRng.fr (by rw [h0 14 (by decide)]; exact Int32.le_refl _) (hr 68 (by decide)) (hr 69 (by decide)) (hr 70 (by decide)) (hr 71 (by decide)) (hr 72 (by decide)) (hr 73 (by decide)) (hr 89 (by decide)) (hr 90 (by decide)) (hr 91 (by decide)) (hr 92 (by decide)) (hr 93 (by decide)) (hr 131 (by decide)) (hr 132 (by decide)), hLea.fr (Int32.le_refl _) (by rw [h0 14 (by decide)]; exact Int32.le_refl _) (congrFun (hr 77 (by decide)) 0) (h84 79 (by decide)) (hr 78 (by decide)) (hr 79 (by decide)) (hr 80 (by decide)) (hr 81 (by decide)) (hr 134 (by decide)) (hr 135 (by decide)) (hr 136 (by decide)) (hr 137 (by decide)), hOut.fr (h0 12 (by decide)) (h84 90 (by decide)) (hr 82 (by decide)) (hr 138 (by decide)), hWrd.fr (hr 106 (by decide))⟩, ?_, by rw [h0 16 (by decide)]⟩
        · rw [x1 2 (by decide) (by decide)]
          by_cases hkt : k < tl
          · rw [x2 k hkt, w2 k hkt]
            exact t4 k hkt
          · have y1 := x3 (k - tl) (by omega)
            have y2 := w3 (k - tl) (by omega)
            rw [show tl + (k - tl) = k by omega] at y1 y2
            rw [y1, y2]
            exact ⟨rfl, zby_r _ _⟩
        · have hL : L = L := rfl
          exact zSameJ.of_rows (h0 15 (by decide)) (fun a ha => hr a (by simp only [List.mem_cons, List.mem_nil_iff, or_false, not_or]; omega))
    · rw [m26, show (780 : Int32) = nI 780 from rfl, nI_leI (by omega) (by omega)] at hc
      omega
  · rw [hr0] at c1
    refine ⟨_, rfl, ZC.of' (vX12_feed_0 hS ⟨fun hc => ?_, fun _ => ⟨rfl, rfl, hT⟩⟩) rfl (Nat.le_of_ble_eq_true rfl) rfl⟩
    rw [t3, show (780 : Int32) = nI 780 from rfl, nI_leI (by omega) (by omega)] at hc
    omega
