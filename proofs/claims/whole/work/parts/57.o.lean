/-! DATE: the most, the first end of it, and the most of the others -/
def zag (A : Nat → Int32) : Nat → Int32
  | 0 => -1
  | m + 1 => if zag A m < A m then A m else zag A m
def zal (A : Nat → Int32) : Nat → Int32
  | 0 => -1
  | m + 1 => if zag A m < A m then nI m else zal A m
def zri (A : Nat → Int32) : Nat → Int32
  | 0 => -1
  | m + 1 => if zag A m < A m then zag A m else if zri A m < A m then A m else zri A m
theorem zag_succ (A : Nat → Int32) (m : Nat) : zag A (m + 1) = if zag A m < A m then A m else zag A m := rfl
theorem zal_succ (A : Nat → Int32) (m : Nat) : zal A (m + 1) = if zag A m < A m then nI m else zal A m := rfl
theorem zri_succ (A : Nat → Int32) (m : Nat) : zri A (m + 1) = if zag A m < A m then zag A m else if zri A m < A m then A m else zri A m := rfl
theorem zda_none {A : Nat → Int32} : ∀ m, (∀ e, e < m → A e = -1) → zag A m = -1 ∧ zal A m = -1 ∧ zri A m = -1 := by
  intro m
  induction m with
  | zero => intro _; exact ⟨rfl, rfl, rfl⟩
  | succ m ih =>
    intro h
    obtain ⟨a1, a2, a3⟩ := ih (fun e he => h e (by omega))
    have := h m (by omega)
    rw [zag_succ, zal_succ, zri_succ, a1, a2, a3, this]
    exact ⟨rfl, rfl, rfl⟩
theorem zda_inv {A : Nat → Int32} (hA : ∀ e, -1 ≤ A e) : ∀ m, m < 1000 → -1 ≤ zag A m ∧ zri A m ≤ zag A m ∧ (∀ e, e < m → A e ≤ zag A m) ∧ ((zal A m = -1 ∧ zag A m = -1) ∨ ∃ e, e < m ∧ zal A m = nI e ∧ A e = zag A m ∧ ¬ zag A m = -1) ∧ (∀ e, e < m → ¬ nI e = zal A m → A e ≤ zri A m) ∧ (zri A m = -1 ∨ ∃ e, e < m ∧ ¬ nI e = zal A m ∧ A e = zri A m) := by
  intro m
  induction m with
  | zero => intro _; exact ⟨Int32.le_refl _, Int32.le_refl _, fun e he => absurd he (Nat.not_lt_zero _), Or.inl ⟨rfl, rfl⟩, fun e he => absurd he (Nat.not_lt_zero _), Or.inl rfl⟩
  | succ m ih =>
    intro hm
    obtain ⟨a1, a2, a3, a4, a5, a6⟩ := ih (by omega)
    have ha := hA m
    have ne : ∀ e, e < m → ¬ nI e = nI m := fun e he => (nI_ne (by omega) (by omega)).mpr (by omega)
    have nm : ¬ nI m = zal A m := fun q => by
      rcases a4 with ⟨w, -⟩ | ⟨e, w1, w2, -⟩
      · rw [w, zeq, znI (by omega), show (-1 : Int32).toInt = -1 from rfl] at q
        omega
      · rw [w2] at q
        exact ne e w1 q.symm
    rw [zag_succ, zal_succ, zri_succ]
    by_cases c : zag A m < A m
    · rw [if_pos c, if_pos c, if_pos c]
      refine ⟨ha, by lia, fun e he => ?_, Or.inr ⟨m, by omega, rfl, rfl, by lia⟩, fun e he hn => ?_, ?_⟩
      · rcases (by omega : e < m ∨ e = m) with w | rfl
        · have := a3 e w
          lia
        · exact Int32.le_refl _
      · rcases (by omega : e < m ∨ e = m) with w | rfl
        · exact a3 e w
        · exact absurd rfl hn
      · rcases a4 with ⟨w, w1⟩ | ⟨e, w1, w2, w3, -⟩
        · exact Or.inl w1
        · exact Or.inr ⟨e, by omega, ne e w1, w3⟩
    · rw [if_neg c, if_neg c, if_neg c]
      refine ⟨a1, ?_, fun e he => ?_, ?_, fun e he hn => ?_, ?_⟩
      · split
        · lia
        · exact a2
      · rcases (by omega : e < m ∨ e = m) with w | rfl
        · exact a3 e w
        · lia
      · rcases a4 with w | ⟨e, w1, w2⟩
        · exact Or.inl w
        · exact Or.inr ⟨e, by omega, w2⟩
      · rcases (by omega : e < m ∨ e = m) with w | rfl
        · have := a5 e w hn
          split
          · lia
          · exact this
        · split
          · exact Int32.le_refl _
          · lia
      · split
        · exact Or.inr ⟨m, by omega, nm, rfl⟩
        · rcases a6 with w | ⟨e, w1, w2⟩
          · exact Or.inl w
          · exact Or.inr ⟨e, by omega, w2⟩
/-- SURE -/
def zsu (A : Nat → Int32) (lev mar : Int32) (n : Nat) : Prop := ¬ zal A 200 = -1 ∧ ¬ 100 * zag A 200 < lev * (nI n - 1) ∧ ∀ e, e < 200 → ¬ nI e = zal A 200 → A e = -1 ∨ A e ≤ zag A 200 - mar
theorem zsu_ri {A : Nat → Int32} (hA : ∀ e, -1 ≤ A e) (mar : Int32) : (∀ e, e < 200 → ¬ nI e = zal A 200 → A e = -1 ∨ A e ≤ zag A 200 - mar) ↔ (zri A 200 = -1 ∨ ¬ zag A 200 - mar < zri A 200) := by
  obtain ⟨a1, a2, a3, a4, a5, a6⟩ := zda_inv hA 200 (by omega)
  constructor
  · intro h
    rcases a6 with w | ⟨e, w1, w2, w3⟩
    · exact Or.inl w
    · rcases h e w1 w2 with q | q
      · exact Or.inl (w3.symm.trans q)
      · refine Or.inr ?_
        rw [← w3]
        exact Int32.not_lt.mpr q
  · intro h e he hn
    have := a5 e he hn
    have h1 := hA e
    rcases h with q | q
    · refine Or.inl ?_
      lia
    · refine Or.inr ?_
      lia
/-- FELLED from, to, USED to -/
def zfF (bk la s6 sw : Int32) : Int32 := if bk = 0 then (if la < la + s6 - sw then la + s6 - sw else la) else la
def zfT (bk la s6 s7 sw : Int32) : Int32 := if bk = 0 then (if sw ≤ 0 then 999 else (if zfF 0 la s6 sw < la + s7 - sw then la + s7 - sw else zfF 0 la s6 sw)) else la
def zfU (to st : Int32) : Int32 := if to + st < 999 then to + st else 999
theorem c_fell {G : Gp} {Q : zPost} {S : zSh} {J : zFI} {L : zFL} {r : Nat} {sw bk : Int32} (hS : zStd S) (hr : zCu r) (h : Q none S (u2 (u2 (u2 J 67 9 (zfF bk (J 67 6) (J r 6) sw)) 67 10 (zfT bk (J 67 6) (J r 6) (J r 7) sw)) 67 11 (zfU (zfT bk (J 67 6) (J r 6) (J r 7) sw) (J r 8))) L) : ZC G mX8_fell fX8_fell lX8_fell [zo G 67, zo G r, .int sw, .int bk] S J L 0 0 Q := by
  have hr' := hr
  refine ZC.of' (vX8_fell_0 hS hr ⟨fun c => ⟨fun d => ?_, fun d => ?_⟩, fun c => ?_⟩) rfl (Nat.le_of_ble_eq_true rfl) rfl
  · unfold zfU zfT at h
    subst c
    rw [if_pos rfl, if_pos d] at h
    unfold zfF at h
    rw [if_pos rfl] at h
    rcases hr' with rfl | rfl | rfl <;> exact h
  · unfold zfU zfT at h
    subst c
    rw [if_pos rfl, if_neg d] at h
    unfold zfF at h
    rw [if_pos rfl] at h
    rcases hr' with rfl | rfl | rfl <;> exact h
  · unfold zfU zfT zfF at h
    rw [if_neg c, if_neg c] at h
    rcases hr' with rfl | rfl | rfl <;> exact h
/-- Rings.dateBy -/
theorem c_dateBy {G : Gp} {Q : zPost} {S : zSh} {I : zFI} {L : zFL} {d : Int32} {r t q n : Nat} (hS : zStd S) (hr : zCu r) (ht : t < 16) (hq : I 69 t = nI q) (hq2 : q ≤ 24) (hb : I 73 t = 0 ∨ I 73 t = 1) (hn : zlead (fun k => decide (I 71 (24 * t + k) ≤ d)) q = n)
    (h : ∀ (I' : zFI) (x : Int32), (∀ b, b ≠ 67 → I' b = I b) → I' 67 6 = zal (zagr (I 68) (I 70) t n) 200 → I' 67 7 = zag (zagr (I 68) (I 70) t n) 200 → I' 67 8 = x → (x = 0 ∨ x = 1) → (x = 1 ↔ zsu (zagr (I 68) (I 70) t n) (I r 4) (I r 5) n) →
      (x = 1 → I' 67 9 = zfF (I 73 t) (zal (zagr (I 68) (I 70) t n) 200) (I r 6) (if nI n < I 72 t then nI n else I 72 t) ∧ I' 67 10 = zfT (I 73 t) (zal (zagr (I 68) (I 70) t n) 200) (I r 6) (I r 7) (if nI n < I 72 t then nI n else I 72 t) ∧ I' 67 11 = zfU (zfT (I 73 t) (zal (zagr (I 68) (I 70) t n) 200) (I r 6) (I r 7) (if nI n < I 72 t then nI n else I 72 t)) (I r 8)) → Q none S I' L) : ZC G mX8_dateBy fX8_dateBy lX8_dateBy [zo G 67, zo G r, .int (nI t), .int d] S I L 0 0 Q := by
  have hnq : n ≤ 24 := by rw [← hn]; exact Nat.le_trans (zlead_le _ _) hq2
  have hr67 : ∀ J : zFI, (∀ b, b ≠ 67 → J b = I b) → J r = I r := fun J hJ => hJ r (by rcases hr with rfl | rfl | rfl <;> decide)
  refine ZC.of' (vX8_dateBy_0 hS hr (c_ringsSeen hS ht hq hq2 ⟨_, rfl, rfl, ?_⟩)) rfl (Nat.le_of_ble_eq_true rfl) rfl
  rw [hn]
  generalize hA : zagr (I 68) (I 70) t n = A at h
  have lo : ∀ e, -1 ≤ A e := fun e => by rw [← hA]; exact (zagr_lo _ _ _ _ _ hnq).1
  refine ⟨fun c => ?_, fun c => ?_⟩
  · have n2 : 2 ≤ n := by
      have := zle.mp c
      rw [znI (by omega), show (2 : Int32).toInt = 2 from rfl] at this
      omega
    have fin : ∀ J : zFI, (∀ b, b ≠ 67 → J b = I b) → J 67 6 = zal A 200 → J 67 7 = zag A 200 → ∀ x : Int32, (x = 0 ∨ x = 1) → (x = 1 ↔ zsu A (I r 4) (I r 5) n) → ((x = 0 → Q none S (u2 J 67 8 x) L) ∧ (¬ x = 0 → ZC G mX8_fell fX8_fell lX8_fell [zo G 67, zo G r, .int (if nI n < (p_X8_sapTold (u2 J 67 8 x) (nI t)) then nI n else (p_X8_sapTold (u2 J 67 8 x) (nI t))), .int (p_X8_barkTold (u2 J 67 8 x) (nI t))] S (u2 J 67 8 x) L 0 0 (fun w S' I2 L2 => w = none ∧ S = S' ∧ Q none S I2 L2))) := fun J j1 j2 j3 x x1 x2 => by
      have row : ∀ b, b ≠ 67 → (u2 J 67 8 x) b = I b := fun b hb => by rw [← u2_row _ _ _ _ hb]; exact j1 b hb
      refine ⟨fun c => h _ x row j2 j3 rfl x1 x2 (fun q => by rw [c] at q; exact absurd q (by decide)), fun c => ?_⟩
      have e1 : p_X8_sapTold (u2 J 67 8 x) (nI t) = I 72 t := by
        unfold p_X8_sapTold
        rw [pick_in ht (by decide), row 72 (by decide)]
      have e2 : p_X8_barkTold (u2 J 67 8 x) (nI t) = I 73 t := by
        unfold p_X8_barkTold
        rw [if_neg (nI_pos (by omega)), if_neg (show ¬ (16 : Int32) ≤ nI t from nI_ge (b := 16) ht (by omega)), znIc (by omega), row 73 (by decide)]
        rcases hb with w | w <;> rw [w] <;> rfl
      rw [e1, e2]
      refine c_fell hS hr ⟨rfl, rfl, h _ x (fun b hb => ?_) ?_ ?_ rfl x1 x2 (fun _ => ⟨?_, ?_, ?_⟩)⟩
      · rw [← u2_row _ _ _ _ hb, ← u2_row _ _ _ _ hb, ← u2_row _ _ _ _ hb]
        exact row b hb
      · exact j2
      · exact j3
      · rw [u2_ne _ _ _ _ (by omega), u2_ne _ _ _ _ (by omega), u2_same, hr67 _ row]
        rw [u2_ne _ _ _ _ (by omega), j2]
      · rw [u2_ne _ _ _ _ (by omega), u2_same, hr67 _ row]
        rw [u2_ne _ _ _ _ (by omega), j2]
      · rw [u2_same, hr67 _ row]
        rw [u2_ne _ _ _ _ (by omega), j2]
    have key : ∀ (k m : Nat) (J : zFI), m + k = 200 → n ≤ m + 1 → (∀ b, b ≠ 67 → J b = I b) → J 67 6 = zal A m → J 67 7 = zag A m → ZW G mX8_dateBy fX8_dateBy lX8_dateBy 39 [zo G 67, zo G r, .int (nI t), .int d, .int (nI n), .int (zri A m), .int (nI m), .null] [] S J L 0 0 Q := by
      intro k
      induction k with
      | zero =>
        intro m J hm hnm j1 j2 j3
        have : m = 200 := by omega
        subst this
        have F := fin J j1 j2 j3
        have z := zsu_ri lo (I r 5)
        refine vX8_dateBy_39 hS hr ⟨fun _ => ?_, fun hc => absurd (Int32.le_refl _) hc⟩
        rw [j2, j3, hr67 J j1]
        refine ⟨fun c1 => F 0 (Or.inl rfl) ⟨fun q => absurd q (by decide), fun q => absurd c1 q.1⟩, fun c1 => ⟨fun c2 => F 0 (Or.inl rfl) ⟨fun q => absurd q (by decide), fun q => absurd c2 q.2.1⟩, fun c2 => ⟨fun c3 => F 1 (Or.inr rfl) ⟨fun _ => ⟨c1, c2, z.mpr (Or.inl c3)⟩, fun _ => rfl⟩, fun c3 => ⟨fun c4 => F 0 (Or.inl rfl) ⟨fun q => absurd q (by decide), fun q => ?_⟩, fun c4 => F 1 (Or.inr rfl) ⟨fun _ => ⟨c1, c2, z.mpr (Or.inr c4)⟩, fun _ => rfl⟩⟩⟩⟩⟩
        rcases z.mp q.2.2 with w | w
        · exact absurd w c3
        · exact absurd c4 w
      | succ k ih =>
        intro m J hm hnm j1 j2 j3
        refine vX8_dateBy_39 hS hr ⟨fun hc => absurd hc (show ¬ (200 : Int32) ≤ nI m from nI_ge (b := 200) (by omega) (by omega)), fun _ => c_agreeAt hS ht hnq n2 hnm (by omega) ⟨_, rfl, rfl, ?_⟩⟩
        rw [j1 68 (by decide), j1 70 (by decide), hA, j3, nI_1]
        refine ⟨fun c1 => ⟨fun c2 => ?_, fun c2 => ?_⟩, fun c1 => ?_⟩
        · have := ih (m + 1) J (by omega) (by omega) j1 (by rw [zal_succ, if_neg (Int32.not_lt.mpr c1), j2]) (by rw [zag_succ, if_neg (Int32.not_lt.mpr c1), j3])
          rw [zri_succ, if_neg (Int32.not_lt.mpr c1), if_neg (Int32.not_lt.mpr c2)] at this
          exact this
        · have := ih (m + 1) J (by omega) (by omega) j1 (by rw [zal_succ, if_neg (Int32.not_lt.mpr c1), j2]) (by rw [zag_succ, if_neg (Int32.not_lt.mpr c1), j3])
          rw [zri_succ, if_neg (Int32.not_lt.mpr c1), if_pos (Int32.not_le.mp c2)] at this
          exact this
        · have := ih (m + 1) (u2 (u2 J 67 7 (A m)) 67 6 (nI m)) (by omega) (by omega) (fun b hb => by rw [← u2_row _ _ _ _ hb, ← u2_row _ _ _ _ hb]; exact j1 b hb) (by rw [zal_succ, if_pos (Int32.not_le.mp c1)]; exact u2_same _ _ _ _) (by rw [zag_succ, if_pos (Int32.not_le.mp c1), u2_ne _ _ _ _ (by omega)]; exact u2_same _ _ _ _)
          rw [zri_succ, if_pos (Int32.not_le.mp c1)] at this
          exact this
    have none0 := zda_none (A := A) (n - 1) (fun e he => by
      rw [← hA]
      unfold zagr
      rw [if_pos (Or.inr (Or.inl (by omega)))])
    have := key (200 - (n - 1)) (n - 1) (u2 (u2 (u2 I 67 6 (-1)) 67 7 (-1)) 67 8 0) (by omega) (by omega) (fun b hb => by rw [← u2_row _ _ _ _ hb, ← u2_row _ _ _ _ hb, ← u2_row _ _ _ _ hb]) (by rw [none0.2.1]; rfl) (by rw [none0.1]; rfl)
    rw [none0.2.2, ← zx_m (by omega)] at this
    exact this
  · have n2 : ¬ 2 ≤ n := fun q => c (nI_le (a := 2) q (by omega))
    have none0 := zda_none (A := A) 200 (fun e he => by
      rw [← hA]
      unfold zagr
      rw [if_pos (Or.inl (by omega))])
    refine h _ 0 (fun b hb => by rw [← u2_row _ _ _ _ hb, ← u2_row _ _ _ _ hb, ← u2_row _ _ _ _ hb]) (by rw [none0.2.1]; rfl) (by rw [none0.1]; rfl) rfl (Or.inl rfl) ⟨fun q => absurd q (by decide), fun q => absurd none0.2.1 q.1⟩ (fun q => absurd q (by decide))
