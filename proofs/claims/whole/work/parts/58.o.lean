theorem zx50 (c k : Nat) : (50 * nI c + nI k : Int32) = nI (50 * c + k) := by
  rw [show (50 : Int32) = nI 50 from rfl, pk_mul, nI_add]
theorem iRng_84 {I J : zFI} {n : Nat} (h : iRng I n) (h1 : ∀ b, b ≠ 84 → J b = I b) : iRng J n := h.fr (by rw [h1 0 (by decide)]; exact Int32.le_refl _) (h1 68 (by decide)) (h1 69 (by decide)) (h1 70 (by decide)) (h1 71 (by decide)) (h1 72 (by decide)) (h1 73 (by decide)) (h1 89 (by decide)) (h1 90 (by decide)) (h1 91 (by decide)) (h1 92 (by decide)) (h1 93 (by decide)) (h1 131 (by decide)) (h1 132 (by decide))
/-- what findDate's end leaves -/
theorem fell_m {Q : Int32 → Int32 → Prop} {bk la s6 s7 n sap : Int32} (hn : 0 ≤ n) (hs : 0 ≤ sap) (h : Q (zfF bk la s6 (if n < sap then n else sap)) (zfT bk la s6 s7 (if n < sap then n else sap))) :
    (bk = 0 → ((n ≤ sap → ((la + s6 - n ≤ la → ((¬ n = 0 → ((la + s7 - n ≤ la → Q la la) ∧ (¬ la + s7 - n ≤ la → Q la (la + s7 - n)))) ∧ (n = 0 → Q la 999))) ∧ (¬ la + s6 - n ≤ la → ((¬ n = 0 → ((la + s7 - n ≤ la + s6 - n → Q (la + s6 - n) (la + s6 - n)) ∧ (¬ la + s7 - n ≤ la + s6 - n → Q (la + s6 - n) (la + s7 - n)))) ∧ (n = 0 → Q (la + s6 - n) 999))))) ∧
      (¬ n ≤ sap → ((la + s6 - sap ≤ la → ((¬ sap = 0 → ((la + s7 - sap ≤ la → Q la la) ∧ (¬ la + s7 - sap ≤ la → Q la (la + s7 - sap)))) ∧ (sap = 0 → Q la 999))) ∧ (¬ la + s6 - sap ≤ la → ((¬ sap = 0 → ((la + s7 - sap ≤ la + s6 - sap → Q (la + s6 - sap) (la + s6 - sap)) ∧ (¬ la + s7 - sap ≤ la + s6 - sap → Q (la + s6 - sap) (la + s7 - sap)))) ∧ (sap = 0 → Q (la + s6 - sap) 999))))))) ∧ (¬ bk = 0 → Q la la) := by
  have key : ∀ sw : Int32, 0 ≤ sw → Q (zfF bk la s6 sw) (zfT bk la s6 s7 sw) → bk = 0 → ((la + s6 - sw ≤ la → ((¬ sw = 0 → ((la + s7 - sw ≤ la → Q la la) ∧ (¬ la + s7 - sw ≤ la → Q la (la + s7 - sw)))) ∧ (sw = 0 → Q la 999))) ∧ (¬ la + s6 - sw ≤ la → ((¬ sw = 0 → ((la + s7 - sw ≤ la + s6 - sw → Q (la + s6 - sw) (la + s6 - sw)) ∧ (¬ la + s7 - sw ≤ la + s6 - sw → Q (la + s6 - sw) (la + s7 - sw)))) ∧ (sw = 0 → Q (la + s6 - sw) 999)))) := fun sw h0 hq hb => by
    unfold zfT at hq
    subst hb
    rw [if_pos rfl] at hq
    have f1 : la + s6 - sw ≤ la → zfF 0 la s6 sw = la := fun c => by
      unfold zfF
      rw [if_pos rfl, if_neg (Int32.not_lt.mpr c)]
    have f2 : ¬ la + s6 - sw ≤ la → zfF 0 la s6 sw = la + s6 - sw := fun c => by
      unfold zfF
      rw [if_pos rfl, if_pos (Int32.not_le.mp c)]
    refine ⟨fun c => ⟨fun d => ⟨fun e => ?_, fun e => ?_⟩, fun d => ?_⟩, fun c => ⟨fun d => ⟨fun e => ?_, fun e => ?_⟩, fun d => ?_⟩⟩
    · rw [f1 c, if_neg (by lia), if_neg (Int32.not_lt.mpr e)] at hq
      exact hq
    · rw [f1 c, if_neg (by lia), if_pos (Int32.not_le.mp e)] at hq
      exact hq
    · rw [f1 c, if_pos (by lia)] at hq
      exact hq
    · rw [f2 c, if_neg (by lia), if_neg (Int32.not_lt.mpr e)] at hq
      exact hq
    · rw [f2 c, if_neg (by lia), if_pos (Int32.not_le.mp e)] at hq
      exact hq
    · rw [f2 c, if_pos (by lia)] at hq
      exact hq
  refine ⟨fun hb => ⟨fun c => key n hn ?_ hb, fun c => key sap hs ?_ hb⟩, fun hb => ?_⟩
  · by_cases d : n < sap
    · rw [if_pos d] at h
      exact h
    · rw [if_neg d, show sap = n by lia] at h
      exact h
  · rw [if_neg (show ¬ n < sap by lia)] at h
    exact h
  · unfold zfT zfF at h
    rw [if_neg hb, if_neg hb] at h
    exact h
/-- the model's findDate -/
theorem m_findDate {G : Gp} {Q : zPost} {S : zSh} {I : zFI} {L : zFL} {c r t n nn : Nat} (hS : zStd S) (hNow : iNow I) (hR : iRng I nn) (hc : c ≤ 1) (hCu : iCu1 I r c) (hr : zCu r) (ht : t < 16) (hn : zlead (fun k => decide (I 71 (24 * t + k) ≤ p_X11_lastDaySeen I)) (I 69 t).toNatClampNeg = n)
    (h : ∀ (I' : zFI) (x : Int32), (∀ b, b ≠ 84 → I' b = I b) → (∀ k, k < 73 ∨ 77 < k → I' 84 k = I 84 k) → I' 84 73 = zal (zagr (I 68) (I 70) t n) 200 → I' 84 74 = zag (zagr (I 68) (I 70) t n) 200 → I' 84 75 = x → (x = 0 ∨ x = 1) → (x = 1 ↔ zsu (zagr (I 68) (I 70) t n) (I r 4) (I r 5) n) →
      (¬ zal (zagr (I 68) (I 70) t n) 200 = -1 → I' 84 76 = zfF (I 73 t) (zal (zagr (I 68) (I 70) t n) 200) (I r 6) (if nI n < I 72 t then nI n else I 72 t) ∧ I' 84 77 = zfT (I 73 t) (zal (zagr (I 68) (I 70) t n) 200) (I r 6) (I r 7) (if nI n < I 72 t then nI n else I 72 t)) → Q none S I' L) : ZC G mX12_findDate fX12_findDate lX12_findDate [zo G 84, .int (nI c), .int (nI t)] S I L 0 0 Q := by
  obtain ⟨s1, s2, s3, s4, s5, s6, s7, s8, s9⟩ := hR.2 t ht
  obtain ⟨q, q1, q2, q3⟩ := zi_le (n := 24) s2 s3 (by decide)
  have hq : zlead (fun k => decide (¬ p_X12_isSeen I (I 91 (24 * t + k)) = 0)) q = n := by
    rw [q2, znIc (by omega)] at hn
    rw [← hn]
    refine zlead_congr (fun k hk => ?_)
    obtain ⟨b1, b2, b3, b4, b5, b6⟩ := s9 k (by rw [q2]; exact nI_lt hk (by omega)) (by omega)
    rw [decide_eq_decide, b2, seen_0 hNow b6, Classical.not_not]
  have hnq : n ≤ q := by rw [← hq]; exact zlead_le _ _
  have hn3 : nI n ≤ I 69 t := by rw [q2]; exact nI_le hnq (by omega)
  have x4 : (50 * nI c + 4 : Int32) = nI (50 * c + 4) := zx50 c 4
  have x5 : (50 * nI c + 5 : Int32) = nI (50 * c + 5) := zx50 c 5
  have x6 : (50 * nI c + 6 : Int32) = nI (50 * c + 6) := zx50 c 6
  have x7 : (50 * nI c + 7 : Int32) = nI (50 * c + 7) := zx50 c 7
  have y4 := hCu.1 4 (by omega)
  have y5 := hCu.1 5 (by omega)
  have y6 := hCu.1 6 (by omega)
  have y7 := hCu.1 7 (by omega)
  refine ZC.of' (vX12_findDate_0 hS (m_ringsSeen hS ht (s1.trans q2) q1 ⟨_, rfl, rfl, ?_⟩)) rfl (Nat.le_of_ble_eq_true rfl) rfl
  rw [hq]
  generalize hA : zagr (I 68) (I 70) t n = A at h
  unfold zsu at h
  have lo : ∀ e, -1 ≤ A e := fun e => by rw [← hA]; exact (zagr_lo _ _ _ _ _ (by omega)).1
  have b84 : ∀ (J : zFI) (k : Nat) (x : Int32), (∀ b, b ≠ 84 → J b = I b) → ∀ b, b ≠ 84 → (u2 J 84 k x) b = I b := fun J k x hJ b hb => by rw [← u2_row _ _ _ _ hb]; exact hJ b hb
  refine ⟨fun c2 => ?_, fun c2 => ?_⟩
  · have n2 : 2 ≤ n := by
      have := zle.mp c2
      rw [znI (by omega), show (2 : Int32).toInt = 2 from rfl] at this
      omega
    have other : ∀ (k m : Nat) (J : zFI) (x : Int32), m + k = 200 → (∀ b, b ≠ 84 → J b = I b) → (∀ k, k < 73 ∨ 77 < k → J 84 k = I 84 k) → J 84 73 = zal A 200 → J 84 74 = zag A 200 → J 84 75 = x → (x = 0 ∨ x = 1) → ¬ zal A 200 = -1 → (x = 1 ↔ ¬ 100 * zag A 200 < I r 4 * (nI n - 1) ∧ ∀ e, e < m → ¬ nI e = zal A 200 → A e = -1 ∨ A e ≤ zag A 200 - I r 5) → ZW G mX12_findDate fX12_findDate lX12_findDate 124 [zo G 84, .int (nI c), .int (nI t), .int (nI n), .int (nI m), .null, .null] [] S J L 0 0 Q := by
      intro k
      induction k with
      | zero =>
        intro m J x hm j1 j2 j3 j4 j5 x1 la x2
        have : m = 200 := by omega
        subst this
        refine vX12_findDate_124 hS ⟨fun _ => ⟨znIin (by omega) (by decide), ?_⟩, fun hc => absurd (Int32.le_refl _) hc⟩
        rw [x6, x7, j3, j1 93 (by decide), j1 92 (by decide), j1 105 (by decide), znIc (show 50 * c + 6 < 2147483648 by omega), znIc (show 50 * c + 7 < 2147483648 by omega), znIc (show t < 2147483648 by omega), s7, s4, y6, y7]
        generalize zal A 200 = la1 at *
        generalize zag A 200 = ag1 at *
        have hin6 : vp_in (nI (50 * c + 6)) 150 := znIin (by omega) (by decide)
        have hin7 : vp_in (nI (50 * c + 7)) 150 := znIin (by omega) (by decide)
        have F := fell_m (Q := fun f to => ∀ K : zFI, (∀ b, b ≠ 84 → K b = J b) → (∀ k, k < 76 ∨ 77 < k → K 84 k = J 84 k) → K 84 76 = f → K 84 77 = to → Q none S K L) (bk := I 73 t) (la := la1) (s6 := I r 6) (s7 := I r 7) (n := nI n) (sap := I 72 t) (nI_pos' (by omega)) s5 (fun K k1 k2 k3 k4 => h K x (fun b hb => (k1 b hb).trans (j1 b hb)) (fun i hi => (k2 i (by omega)).trans (j2 i (by omega))) ((k2 73 (by omega)).trans j3) ((k2 74 (by omega)).trans j4) ((k2 75 (by omega)).trans j5) x1 (x2.trans ⟨fun q => ⟨la, q⟩, fun q => q.2⟩) (fun _ => ⟨k3, k4⟩))
        have r2 : ∀ (x y : Int32) (b : Nat), b ≠ 84 → (u2 (u2 J 84 76 x) 84 77 y) b = J b := fun x y b hb => by rw [← u2_row _ _ _ _ hb, ← u2_row _ _ _ _ hb]
        have r3 : ∀ (x y z : Int32) (b : Nat), b ≠ 84 → (u2 (u2 (u2 J 84 76 x) 84 77 y) 84 77 z) b = J b := fun x y z b hb => by rw [← u2_row _ _ _ _ hb, ← u2_row _ _ _ _ hb, ← u2_row _ _ _ _ hb]
        have r4 : ∀ (x y z w : Int32) (b : Nat), b ≠ 84 → (u2 (u2 (u2 (u2 J 84 76 x) 84 77 y) 84 76 z) 84 77 w) b = J b := fun x y z w b hb => by rw [← u2_row _ _ _ _ hb, ← u2_row _ _ _ _ hb, ← u2_row _ _ _ _ hb, ← u2_row _ _ _ _ hb]
        have k2 : ∀ (x y : Int32) (k : Nat), k < 76 ∨ 77 < k → (u2 (u2 J 84 76 x) 84 77 y) 84 k = J 84 k := fun x y k hk => by rw [u2_ne _ _ _ _ (by omega), u2_ne _ _ _ _ (by omega)]
        have k3 : ∀ (x y z : Int32) (k : Nat), k < 76 ∨ 77 < k → (u2 (u2 (u2 J 84 76 x) 84 77 y) 84 77 z) 84 k = J 84 k := fun x y z k hk => by rw [u2_ne _ _ _ _ (by omega), u2_ne _ _ _ _ (by omega), u2_ne _ _ _ _ (by omega)]
        have k4 : ∀ (x y z w : Int32) (k : Nat), k < 76 ∨ 77 < k → (u2 (u2 (u2 (u2 J 84 76 x) 84 77 y) 84 76 z) 84 77 w) 84 k = J 84 k := fun x y z w k hk => by rw [u2_ne _ _ _ _ (by omega), u2_ne _ _ _ _ (by omega), u2_ne _ _ _ _ (by omega), u2_ne _ _ _ _ (by omega)]
        obtain ⟨F1, F2⟩ := F
        refine ⟨fun d => ⟨fun e => ⟨hin6, hin7, fun f => ⟨fun g => ⟨fun i => ?_, fun i => ?_⟩, fun g => ?_⟩, fun f => ⟨fun g => ⟨fun i => ?_, fun i => ?_⟩, fun g => ?_⟩⟩, fun e => ⟨hin6, hin7, fun f => ⟨fun g => ⟨fun i => ?_, fun i => ?_⟩, fun g => ?_⟩, fun f => ⟨fun g => ⟨fun i => ?_, fun i => ?_⟩, fun g => ?_⟩⟩⟩, fun d => ?_⟩
        · exact (((F1 d).1 e).1 f).1 g |>.1 i _ (r3 _ _ _) (k3 _ _ _) (by rw [u2_ne _ _ _ _ (by omega), u2_ne _ _ _ _ (by omega), u2_same]) (u2_same _ _ _ _)
        · exact (((F1 d).1 e).1 f).1 g |>.2 i _ (r3 _ _ _) (k3 _ _ _) (by rw [u2_ne _ _ _ _ (by omega), u2_ne _ _ _ _ (by omega), u2_same]) (u2_same _ _ _ _)
        · exact (((F1 d).1 e).1 f).2 g _ (r3 _ _ _) (k3 _ _ _) (by rw [u2_ne _ _ _ _ (by omega), u2_ne _ _ _ _ (by omega), u2_same]) (u2_same _ _ _ _)
        · exact (((F1 d).1 e).2 f).1 g |>.1 i _ (r4 _ _ _ _) (k4 _ _ _ _) (by rw [u2_ne _ _ _ _ (by omega), u2_same]) (u2_same _ _ _ _)
        · exact (((F1 d).1 e).2 f).1 g |>.2 i _ (r4 _ _ _ _) (k4 _ _ _ _) (by rw [u2_ne _ _ _ _ (by omega), u2_same]) (u2_same _ _ _ _)
        · exact (((F1 d).1 e).2 f).2 g _ (r4 _ _ _ _) (k4 _ _ _ _) (by rw [u2_ne _ _ _ _ (by omega), u2_same]) (u2_same _ _ _ _)
        · exact (((F1 d).2 e).1 f).1 g |>.1 i _ (r3 _ _ _) (k3 _ _ _) (by rw [u2_ne _ _ _ _ (by omega), u2_ne _ _ _ _ (by omega), u2_same]) (u2_same _ _ _ _)
        · exact (((F1 d).2 e).1 f).1 g |>.2 i _ (r3 _ _ _) (k3 _ _ _) (by rw [u2_ne _ _ _ _ (by omega), u2_ne _ _ _ _ (by omega), u2_same]) (u2_same _ _ _ _)
        · exact (((F1 d).2 e).1 f).2 g _ (r3 _ _ _) (k3 _ _ _) (by rw [u2_ne _ _ _ _ (by omega), u2_ne _ _ _ _ (by omega), u2_same]) (u2_same _ _ _ _)
        · exact (((F1 d).2 e).2 f).1 g |>.1 i _ (r4 _ _ _ _) (k4 _ _ _ _) (by rw [u2_ne _ _ _ _ (by omega), u2_same]) (u2_same _ _ _ _)
        · exact (((F1 d).2 e).2 f).1 g |>.2 i _ (r4 _ _ _ _) (k4 _ _ _ _) (by rw [u2_ne _ _ _ _ (by omega), u2_same]) (u2_same _ _ _ _)
        · exact (((F1 d).2 e).2 f).2 g _ (r4 _ _ _ _) (k4 _ _ _ _) (by rw [u2_ne _ _ _ _ (by omega), u2_same]) (u2_same _ _ _ _)
        · exact F2 d _ (r2 _ _) (k2 _ _) (by rw [u2_ne _ _ _ _ (by omega), u2_same]) (u2_same _ _ _ _)
      | succ k ih =>
        intro m J x hm j1 j2 j3 j4 j5 x1 la x2
        have go : (A m = -1 ∨ A m ≤ zag A 200 - I r 5 ∨ nI m = zal A 200) → ZW G mX12_findDate fX12_findDate lX12_findDate 124 [zo G 84, .int (nI c), .int (nI t), .int (nI n), .int (nI m + 1), .null, .null] [] S J L 0 0 Q := fun hq => by
          rw [nI_1]
          refine ih (m + 1) J x (by omega) j1 j2 j3 j4 j5 x1 la (x2.trans ⟨fun w => ⟨w.1, fun e he hne => ?_⟩, fun w => ⟨w.1, fun e he hne => w.2 e (by omega) hne⟩⟩)
          rcases (by omega : e < m ∨ e = m) with z | rfl
          · exact w.2 e z hne
          · rcases hq with z | z | z
            · exact Or.inl z
            · exact Or.inr z
            · exact absurd z hne
        refine vX12_findDate_124 hS ⟨fun hc => absurd hc (show ¬ (200 : Int32) ≤ nI m from nI_ge (b := 200) (by omega) (by omega)), fun _ => ⟨fun d => go (Or.inr (Or.inr (d.trans j3))), fun d => m_agree hS (iRng_84 hR j1) ht (by omega) n2 (by rw [j1 69 (by decide)]; exact hn3) (by omega) ⟨_, rfl, rfl, ?_⟩⟩⟩
        rw [j1 68 (by decide), j1 70 (by decide), hA, j4, j1 105 (by decide), x5, znIc (show 50 * c + 5 < 2147483648 by omega), y5]
        refine ⟨znIin (by omega) (by decide), fun e => go (Or.inr (Or.inl e)), fun e => m_agree hS (iRng_84 hR j1) ht (by omega) n2 (by rw [j1 69 (by decide)]; exact hn3) (by omega) ⟨_, rfl, rfl, ?_⟩⟩
        rw [j1 68 (by decide), j1 70 (by decide), hA]
        refine ⟨fun f => go (Or.inl f), fun f => ?_⟩
        rw [nI_1]
        refine ih (m + 1) _ 0 (by omega) (b84 J _ _ j1) (fun k hk => by rw [u2_ne _ _ _ _ (by omega)]; exact j2 k hk) (by rw [u2_ne _ _ _ _ (by omega)]; exact j3) (by rw [u2_ne _ _ _ _ (by omega)]; exact j4) rfl (Or.inl rfl) la ⟨fun q => absurd q (by decide), fun w => ?_⟩
        rcases w.2 m (by omega) (fun q => d (q.trans j3.symm)) with z | z
        · exact absurd z f
        · exact absurd z e
    have key : ∀ (k m : Nat) (J : zFI), m + k = 200 → (∀ b, b ≠ 84 → J b = I b) → (∀ k, k < 73 ∨ 77 < k → J 84 k = I 84 k) → J 84 73 = zal A m → J 84 74 = zag A m → J 84 75 = 0 → ZW G mX12_findDate fX12_findDate lX12_findDate 30 [zo G 84, .int (nI c), .int (nI t), .int (nI n), .int (nI m), .null, .null] [] S J L 0 0 Q := by
      intro k
      induction k with
      | zero =>
        intro m J hm j1 j2 j3 j4 j5
        have : m = 200 := by omega
        subst this
        refine vX12_findDate_30 hS ⟨fun _ => ?_, fun hc => absurd (Int32.le_refl _) hc⟩
        rw [j3, j4, j1 105 (by decide), x4, znIc (show 50 * c + 4 < 2147483648 by omega), y4]
        refine ⟨fun d => ⟨znIin (by omega) (by decide), fun e => ?_, fun e => ?_⟩, fun d => ?_⟩
        · exact other 200 0 _ 0 (by omega) (b84 J _ _ j1) (fun k hk => by rw [u2_ne _ _ _ _ (by omega)]; exact j2 k hk) (by rw [u2_ne _ _ _ _ (by omega)]; exact j3) (by rw [u2_ne _ _ _ _ (by omega)]; exact j4) rfl (Or.inl rfl) d ⟨fun q => absurd q (by decide), fun w => absurd e w.1⟩
        · exact other 200 0 _ 1 (by omega) (b84 J _ _ j1) (fun k hk => by rw [u2_ne _ _ _ _ (by omega)]; exact j2 k hk) (by rw [u2_ne _ _ _ _ (by omega)]; exact j3) (by rw [u2_ne _ _ _ _ (by omega)]; exact j4) rfl (Or.inr rfl) d ⟨fun _ => ⟨e, fun e' he => absurd he (Nat.not_lt_zero _)⟩, fun _ => rfl⟩
        · exact h J 0 j1 j2 j3 j4 j5 (Or.inl rfl) ⟨fun q => absurd q (by decide), fun w => absurd d w.1⟩ (fun w => absurd d w)
      | succ k ih =>
        intro m J hm j1 j2 j3 j4 j5
        refine vX12_findDate_30 hS ⟨fun hc => absurd hc (show ¬ (200 : Int32) ≤ nI m from nI_ge (b := 200) (by omega) (by omega)), fun _ => m_agree hS (iRng_84 hR j1) ht (by omega) n2 (by rw [j1 69 (by decide)]; exact hn3) (by omega) ⟨_, rfl, rfl, ?_⟩⟩
        rw [j1 68 (by decide), j1 70 (by decide), hA, j4, nI_1]
        refine ⟨fun d => ?_, fun d => ?_⟩
        · exact ih (m + 1) _ (by omega) (b84 _ _ _ (b84 J _ _ j1)) (fun k hk => by rw [u2_ne _ _ _ _ (by omega), u2_ne _ _ _ _ (by omega)]; exact j2 k hk) (by rw [zal_succ, if_pos d]; rfl) (by rw [zag_succ, if_pos d]; rfl) j5
        · exact ih (m + 1) J (by omega) j1 j2 (by rw [zal_succ, if_neg d]; exact j3) (by rw [zag_succ, if_neg d]; exact j4) j5
    exact key 200 0 _ (by omega) (b84 _ _ _ (b84 _ _ _ (b84 I _ _ (fun _ _ => rfl)))) (fun k hk => by rw [u2_ne _ _ _ _ (by omega), u2_ne _ _ _ _ (by omega), u2_ne _ _ _ _ (by omega)]) rfl rfl rfl
  · have n2 : ¬ 2 ≤ n := fun q => c2 (nI_le (a := 2) q (by omega))
    have none0 := zda_none (A := A) 200 (fun e he => by
      rw [← hA]
      unfold zagr
      rw [if_pos (Or.inl (by omega))])
    exact h _ 0 (b84 _ _ _ (b84 _ _ _ (b84 I _ _ (fun _ _ => rfl)))) (fun k hk => by rw [u2_ne _ _ _ _ (by omega), u2_ne _ _ _ _ (by omega), u2_ne _ _ _ _ (by omega)]) (by rw [none0.2.1]; rfl) (by rw [none0.1]; rfl) rfl (Or.inl rfl) ⟨fun q => absurd q (by decide), fun q => absurd none0.2.1 q.1⟩ (fun q => absurd none0.2.1 q)
