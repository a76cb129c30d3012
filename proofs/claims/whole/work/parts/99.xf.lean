theorem m_dateOf {G : Gp} {S : zSh} {I : zFI} {L : zFL} {n jn mn tl ln on : Nat} {Q : zPost} {c t : Nat} (h : iAll S I n jn mn tl ln on) (hc : c ≤ 1) (ht : t < 16) (q : ∀ J x, (∀ b, b ≠ 84 → J b = I b) → (∀ k, k < 73 ∨ 77 < k → J 84 k = I 84 k) → J 84 75 = x → (x = 0 ∨ x = 1) → (x = 1 ↔ zsr I (zrl S (nI c)) t = true) → (x = 1 → J 84 76 = zhF I (zrl S (nI c)) t ∧ p_X12_usedTo J (nI c) = zhU I (zrl S (nI c)) t) → Q none S J L) :
    ZC G mX12_findDate fX12_findDate lX12_findDate [zo G 84, .int (nI c), .int (nI t)] S I L 0 0 Q := by
  have hu := iCus_c h.2.2.2.2.2.2.2.2.1 hc
  refine m_findDate h.1 h.2.1 h.2.2.2.2.2.2.2.2.2.1 hc hu (h.1.rl (nI_01 hc)).2 ht rfl (fun J x w1 w2 w3 w4 w5 w6 w7 w8 => q J x w1 w2 w5 w6 (w7.trans zsr_iff.symm) (fun x1 => ?_))
  obtain ⟨v1, v2⟩ := w8 (w7.mp x1).1
  refine ⟨v1, ?_⟩
  unfold p_X12_usedTo
  have x8 : (50 * nI c + 8 : Int32) = nI (50 * c + 8) := zx50 c 8
  rw [x8, znIc (by omega), w1 105 (by omega), hu.1 8 (by omega), v2, zfU_eq]
  rfl
theorem m_built {G : Gp} {S : zSh} {I : zFI} {L : zFL} {n jn mn tl ln on : Nat} {Q : zPost} {c g : Nat} {F v3 : Int32} (h : iAll S I n jn mn tl ln on) (hc : c ≤ 1) (hg : g < 8) (hF : I 125 g = F) (in16 : ∀ x, x < 16 → zb F x → x < n) (inn : 0 ≤ v3 ∧ v3 ≤ 3)
    (q : ∀ J, zScrd I J → (v3 = 3 → Q (some (.int (nI (zcnt (zyq I (zrl S (nI c)) F) 16)))) S J L) ∧ (v3 = 2 → Q (some (.int (nI (zcnt (zyq I (zrl S (nI c)) F) 16) - nI (zym (zyN I (zrl S (nI c)) F 16) 1000)))) S J L) ∧ (v3 = 0 → Q (some (.int (zyf (zyN I (zrl S (nI c)) F 16) 1000))) S J L) ∧ (v3 = 1 → Q (some (.int (zyl (zyN I (zrl S (nI c)) F 16) 1000))) S J L)) :
    ZW G mX12_built fX12_built lX12_built 29 [zo G 84, .int (nI c), .int (nI g), .int v3, .int 0, .null, .null] [] S I L 0 0 Q := by
  have hS := h.1
  have r := (hS.rl (nI_01 hc)).2
  have n16 := h.2.2.1.2.1
  have N16 : ∀ T y, T ≤ 16 → zyN I (zrl S (nI c)) F T y ≤ 16 := fun T y hT => Nat.le_trans (zcnt_le _ _) hT
  -- from the first year on
  have last : ∀ (J : zFI) (k : Nat), zScrd I J → k ≤ 16 → k = zcnt (zyq I (zrl S (nI c)) F) 16 → (∀ y, y < 1000 → J 133 y = nI (zyN I (zrl S (nI c)) F 16 y)) → ¬ v3 = 3 → ZW G mX12_built fX12_built lX12_built 164 [zo G 84, .int (nI c), .int (nI g), .int v3, .int (nI k), .int 0, .int 1] [] S J L 0 0 Q := by
    intro J k w k16 hk j1 n3
    obtain ⟨-, q2, q0, q1⟩ := q J w
    obtain ⟨b1, b2, b3⟩ := zy_inv (zyN I (zrl S (nI c)) F 16) 1000 (by omega)
    have some1 : ¬ k = 0 → 0 < zym (zyN I (zrl S (nI c)) F 16) 1000 := fun nk => by
      obtain ⟨t, t1, t2, -⟩ := zcnt_nth (p := zyq I (zrl S (nI c)) F) (f := 0) 16 (by omega)
      have t3 := t2
      unfold zyq at t3
      rw [Bool.and_eq_true] at t3
      obtain ⟨a, b, ab, b10, ea, eb, -⟩ := zsp_in h hc t1 t3.2
      have one : 0 < zyN I (zrl S (nI c)) F 16 a := by
        have := zcnt_mem (p := fun t => zyq I (zrl S (nI c)) F t && (decide (zhF I (zrl S (nI c)) t ≤ nI a) && decide (nI a ≤ zhU I (zrl S (nI c)) t))) (t := t) (m := 16) (by
          show (zyq I (zrl S (nI c)) F t && (decide (zhF I (zrl S (nI c)) t ≤ nI a) && decide (nI a ≤ zhU I (zrl S (nI c)) t))) = true
          rw [t2, ea, eb, decide_eq_true (Int32.le_refl _), decide_eq_true (nI_le ab (by omega))]
          rfl) t1
        exact Nat.lt_of_le_of_lt (Nat.zero_le _) this
      have := b1 a (by omega)
      omega
    have none0 : k = 0 → ∀ y, zyN I (zrl S (nI c)) F 16 y = 0 := fun k0 y => by
      have : ∀ T, T ≤ 16 → zyN I (zrl S (nI c)) F T y ≤ zcnt (zyq I (zrl S (nI c)) F) T := fun T _ => zcnt_sub (fun t q => by
        have q : (zyq I (zrl S (nI c)) F t && (decide (zhF I (zrl S (nI c)) t ≤ nI y) && decide (nI y ≤ zhU I (zrl S (nI c)) t))) = true := q
        rw [Bool.and_eq_true] at q
        exact q.1) T
      have := this 16 (Nat.le_refl _)
      omega
    generalize hN : zyN I (zrl S (nI c)) F 16 = f at *
    have f16 : ∀ y, f y ≤ 16 := fun y => by rw [← hN]; exact N16 16 y (Nat.le_refl _)
    have run : ∀ (A E : Nat), A ≤ E → E < 1000 → (∀ y, A ≤ y → y ≤ E → f y = f A) → (E + 1 < 1000 → ¬ f (E + 1) = f A) → (¬ v3 = 0 → Q (some (.int (nI E))) S J L) → (v3 = 0 → Q (some (.int (nI A))) S J L) → ∀ (d y : Nat), y + d = E → A ≤ y → ZW G mX12_built fX12_built lX12_built 226 [zo G 84, .int (nI c), .int (nI g), .int v3, .int (nI k), .int (nI A), .int (nI y)] [] S J L 0 0 Q := by
      intro A E hAE hE same stop a1 a0 d
      induction d with
      | zero =>
        intro y hy _
        rw [show y = E by omega]
        refine vX12_built_226 hS ⟨fun _ => ⟨a1, a0⟩, fun no => ?_⟩
        rw [zle, znI (by omega), show (999 : Int32).toInt = 999 from rfl] at no
        rw [nI_1, znIc (show E + 1 < 2147483648 by omega), znIc (show A < 2147483648 by omega), j1 (E + 1) (by omega), j1 A (by omega)]
        refine ⟨znIin (by omega) (by omega), znIin (by omega) (by omega), fun _ => ⟨a1, a0⟩, fun e => absurd (nI_same ?_ ?_ e) (stop (by omega))⟩
        · have := f16 (E + 1)
          omega
        · have := f16 A
          omega
      | succ d ih =>
        intro y hy hAy
        refine vX12_built_226 hS ⟨fun yes => ?_, fun no => ?_⟩
        · rw [zle, znI (by omega), show (999 : Int32).toInt = 999 from rfl] at yes
          omega
        · rw [nI_1, znIc (show y + 1 < 2147483648 by omega), znIc (show A < 2147483648 by omega), j1 (y + 1) (by omega), j1 A (by omega)]
          refine ⟨znIin (by omega) (by omega), znIin (by omega) (by omega), fun ne => absurd (by rw [same (y + 1) (by omega) (by omega)]) ne, fun _ => ih (y + 1) (by omega) (by omega)⟩
    have main : ∀ (d y A : Nat), y + d = 1000 → 1 ≤ y → A < y → (∀ x, x < y → f x ≤ f A) → (∀ x, x < A → f x < f A) → ZW G mX12_built fX12_built lX12_built 164 [zo G 84, .int (nI c), .int (nI g), .int v3, .int (nI k), .int (nI A), .int (nI y)] [] S J L 0 0 Q := by
      intro d
      induction d with
      | zero =>
        intro y A hy y1 hA m1 m2
        rw [show y = 1000 by omega] at m1 hA ⊢
        have fA : f A = zym f 1000 := by
          rcases Nat.eq_zero_or_pos (zym f 1000) with e | e
          · have := b1 A hA
            omega
          · obtain ⟨F', E', c1, c2, c3, c4, c5, c6, c7, c8⟩ := b3 e
            have := m1 F' (by omega)
            have := b1 A hA
            omega
        refine vX12_built_164 hS ⟨fun _ => ⟨fun n2 => ⟨fun nk => ?_, fun zk => ?_⟩, fun e2 => ⟨znIin (by omega) (by omega), ?_⟩⟩, fun no => absurd (Int32.le_refl _) no⟩
        · have k0 : ¬ k = 0 := fun y => nk (by rw [y]; rfl)
          obtain ⟨F', E', c1, c2, c3, c4, c5, c6, c7, c8⟩ := b3 (some1 k0)
          have : A = F' := by
            rcases Nat.lt_trichotomy A F' with y | y | y
            · have := c6 A y
              omega
            · exact y
            · have := m2 F' y
              omega
          rw [this]
          refine run F' E' c1 c2 (fun y y1 y2 => by rw [c7 y y1 y2, c5]) (fun y => by rw [c5]; exact c8 y) (fun n0 => ?_) (fun e0 => ?_) (E' - F') F' (by omega) (Nat.le_refl _)
          · have e1 : v3 = 1 := by
              clear b3
              obtain ⟨p1, p2⟩ := inn
              have p1 := zle.mp p1
              have p2 := zle.mp p2
              rw [zeq] at n0 n2 n3 ⊢
              rw [show (0 : Int32).toInt = 0 from rfl] at n0 p1
              rw [show (1 : Int32).toInt = 1 from rfl]
              rw [show (2 : Int32).toInt = 2 from rfl] at n2
              rw [show (3 : Int32).toInt = 3 from rfl] at n3 p2
              omega
            have := q1 e1
            rw [c4] at this
            exact this
          · have := q0 e0
            rw [c3] at this
            exact this
        · have k0 : k = 0 := nI_same (by omega) (by omega) (show nI k = nI 0 from zk)
          have z0 : zym f 1000 = 0 := by
            rw [← fA]
            exact none0 k0 A
          have := b2 z0
          by_cases e0 : v3 = 0
          · have := q0 e0
            rw [(b2 z0).1] at this
            exact this
          · have e1 : v3 = 1 := by
              clear b3
              obtain ⟨p1, p2⟩ := inn
              have p1 := zle.mp p1
              have p2 := zle.mp p2
              rw [zeq] at e0 n2 n3 ⊢
              rw [show (0 : Int32).toInt = 0 from rfl] at e0 p1
              rw [show (1 : Int32).toInt = 1 from rfl]
              rw [show (2 : Int32).toInt = 2 from rfl] at n2
              rw [show (3 : Int32).toInt = 3 from rfl] at n3 p2
              omega
            have := q1 e1
            rw [(b2 z0).2] at this
            exact this
        · rw [znIc (show A < 2147483648 by omega), j1 A hA, fA, hk]
          exact q2 e2
      | succ d ih =>
        intro y A hy y1 hA m1 m2
        have fy := f16 y
        have fA := f16 A
        refine vX12_built_164 hS ⟨fun no => absurd no (nI_ge (b := 1000) (by omega) (by omega)), fun _ => ⟨znIin (by omega) (by omega), znIin (by omega) (by omega), ?_⟩⟩
        rw [znIc (show y < 2147483648 by omega), znIc (show A < 2147483648 by omega), j1 y (by omega), j1 A (by omega), nI_1]
        refine ⟨fun le => ih (y + 1) A (by omega) (by omega) (by omega) (fun x hx => ?_) m2, fun gt => ih (y + 1) y (by omega) (by omega) (by omega) (fun x hx => ?_) (fun x hx => ?_)⟩
        · rw [zle, znI (by omega), znI (by omega)] at le
          rcases (by omega : x < y ∨ x = y) with e | e
          · exact m1 x e
          · rw [e]
            omega
        · rw [zle, znI (by omega), znI (by omega)] at gt
          rcases (by omega : x < y ∨ x = y) with e | e
          · have := m1 x e
            omega
          · rw [e]
            exact Nat.le_refl _
        · rw [zle, znI (by omega), znI (by omega)] at gt
          have := m1 x hx
          omega
    exact main 999 1 0 (by omega) (Nat.le_refl _) (by omega) (fun x hx => by rw [show x = 0 by omega]; exact Nat.le_refl _) (fun x hx => absurd hx (Nat.not_lt_zero _))
  have all : ∀ (d T : Nat) (J : zFI), T + d = n → zScrd I J → J 125 g = F → (∀ y, y < 1000 → J 133 y = nI (zyN I (zrl S (nI c)) F T y)) → ZW G mX12_built fX12_built lX12_built 57 [zo G 84, .int (nI c), .int (nI g), .int v3, .int (nI (zcnt (zyq I (zrl S (nI c)) F) T)), .int (nI T), .null] [] S J L 0 0 Q := by
    intro d
    induction d with
    | zero =>
      intro T J hT w jF j1
      rw [show T = n by omega] at j1 ⊢
      have out : ∀ t, n ≤ t → t < 16 → ¬ zyq I (zrl S (nI c)) F t = true := fun t t1 t2 y => by
        unfold zyq at y
        rw [Bool.and_eq_true] at y
        have := in16 t t2 (zbb_iff.mp y.1)
        omega
      have ek : zcnt (zyq I (zrl S (nI c)) F) 16 = zcnt (zyq I (zrl S (nI c)) F) n := zcnt_part n16 (fun k a b => out k a b)
      have eN : ∀ y, zyN I (zrl S (nI c)) F 16 y = zyN I (zrl S (nI c)) F n y := fun y => zcnt_part n16 (fun k a b q => by
        have q : (zyq I (zrl S (nI c)) F k && (decide (zhF I (zrl S (nI c)) k ≤ nI y) && decide (nI y ≤ zhU I (zrl S (nI c)) k))) = true := q
        rw [Bool.and_eq_true] at q
        exact out k a b q.1)
      have e3 : J 84 3 = nI n := by rw [w.2.2 3 (by decide)]; exact h.2.2.1.2.2.1
      have ck := zcnt_le (zyq I (zrl S (nI c)) F) n
      refine vX12_built_57 hS ⟨fun _ => ⟨fun n3 => last J _ w (by omega) ek.symm (fun y hy => by rw [eN]; exact j1 y hy) n3, fun y => ?_⟩, fun no => ?_⟩
      · have := (q J w).1 y
        rw [ek] at this
        exact this
      · rw [e3] at no
        exact absurd (Int32.le_refl _) no
    | succ d ih =>
      intro T J hT w jF j1
      obtain ⟨AJ, -, -⟩ := zScrd.all (L := L) h w
      have i1 := ih (T + 1)
      have e3 : J 84 3 = nI n := by rw [w.2.2 3 (by decide)]; exact h.2.2.1.2.2.1
      have ck := zcnt_le (zyq I (zrl S (nI c)) F) T
      have skip : ¬ zyq I (zrl S (nI c)) F T = true → ∀ K, zScrd I K → K 125 g = F → (∀ y, y < 1000 → K 133 y = nI (zyN I (zrl S (nI c)) F T y)) → ZW G mX12_built fX12_built lX12_built 57 [zo G 84, .int (nI c), .int (nI g), .int v3, .int (nI (zcnt (zyq I (zrl S (nI c)) F) T)), .int (nI (T + 1)), .null] [] S K L 0 0 Q := fun nq K wk kF k1 => by
        have i1 := i1 K (by omega) wk kF (fun y hy => ?_)
        · rw [zcnt_succ, if_neg nq] at i1
          exact i1
        · rw [k1 y hy]
          unfold zyN
          rw [zcnt_succ, if_neg (fun q => nq ?_)]
          have q : (zyq I (zrl S (nI c)) F T && (decide (zhF I (zrl S (nI c)) T ≤ nI y) && decide (nI y ≤ zhU I (zrl S (nI c)) T))) = true := q
          rw [Bool.and_eq_true] at q
          exact q.1
      refine vX12_built_57 hS ⟨fun no => ?_, fun _ => ⟨znIin (by omega) (by omega), ?_⟩⟩
      · rw [e3] at no
        exact absurd no (nI_ge (by omega) (by omega))
      · rw [znIc (show g < 2147483648 by omega), jF, nI_1, nI_1]
        refine ⟨fun yes => m_dateOf AJ hc (by omega) (fun K x k1 k2 k3 k4 k5 k6 => ⟨rfl, rfl, ?_⟩), fun no => skip (fun y => ?_) J w jF j1⟩
        · have sq := zsp_eq w r T
          rw [sq.2.2.2] at k5
          rw [sq.1, sq.2.2.1] at k6
          have wK : zScrd I K := w.trans (zScrd.r84 k1 (fun k hk => k2 k (by
            have : ∀ x, x ∈ zKeep84 → x < 73 ∨ 77 < x := by decide
            exact this k hk)))
          rw [k3]
          refine ⟨fun nz => ?_, fun z => skip (fun y => ?_) K wK (by rw [k1 125 (by omega)]; exact jF) (fun y hy => by rw [k1 133 (by omega)]; exact j1 y hy)⟩
          · have x1 := k4.resolve_left nz
            obtain ⟨f1, f2⟩ := k6 x1
            have yq : zyq I (zrl S (nI c)) F T = true := by
              unfold zyq
              rw [zbb_iff.mpr (Classical.byContradiction (fun y => yes ((ztest_0 (by omega)).mpr y))), k5.mp x1]
              rfl
            obtain ⟨a, b, ab, b10, ea, eb, -⟩ := zsp_in h hc (show T < 16 by omega) (k5.mp x1)
            rw [f1, ea]
            rw [eb] at f2
            have step : ∀ (d y : Nat) (M : zFI), y + d = b + 1 → a ≤ y → (∀ z, z ≠ 133 → M z = K z) → (∀ z, z < 1000 → M 133 z = nI (zyN I (zrl S (nI c)) F T z + if a ≤ z ∧ z < y then 1 else 0)) → ZW G mX12_built fX12_built lX12_built 112 [zo G 84, .int (nI c), .int (nI g), .int v3, .int (nI (zcnt (zyq I (zrl S (nI c)) F) T + 1)), .int (nI T), .int (nI y)] [] S M L 0 0 Q := by
              intro d
              induction d with
              | zero =>
                intro y M hy ay m1 m2
                have um : p_X12_usedTo M (nI c) = nI b := by
                  rw [← f2]
                  unfold p_X12_usedTo
                  rw [m1 84 (by omega), m1 105 (by omega)]
                refine vX12_built_112 hS ⟨?_, ?_⟩
                · rw [show (50 * nI c + 8 : Int32) = nI (50 * c + 8) from zx50 c 8]
                  exact znIin (by omega) (by omega)
                · rw [um, nI_1]
                  refine ⟨fun _ => ?_, fun no => absurd (nI_lt (by omega) (by omega)) no⟩
                  have i1 := i1 M (by omega) (wK.trans ⟨fun z hz => m1 z (fun y => hz (by rw [y]; decide)), by rw [m1 77 (by omega)], fun k _ => by rw [m1 84 (by omega)]⟩) (by rw [m1 125 (by omega), k1 125 (by omega)]; exact jF) (fun z hz => ?_)
                  · rw [zcnt_succ, if_pos yq] at i1
                    exact i1
                  · rw [m2 z hz]
                    unfold zyN
                    rw [zcnt_succ]
                    show nI (zyN I (zrl S (nI c)) F T z + _) = nI (if (zyq I (zrl S (nI c)) F T && (decide (zhF I (zrl S (nI c)) T ≤ nI z) && decide (nI z ≤ zhU I (zrl S (nI c)) T))) = true then zyN I (zrl S (nI c)) F T z + 1 else zyN I (zrl S (nI c)) F T z)
                    rw [yq, Bool.true_and, ea, eb]
                    have dd : (decide (nI a ≤ nI z) && decide (nI z ≤ nI b)) = true ↔ a ≤ z ∧ z < y := by
                      rw [Bool.and_eq_true, decide_eq_true_iff, decide_eq_true_iff, zle, zle, znI (show a < 2147483648 by omega), znI (show b < 2147483648 by omega), znI (show z < 2147483648 by omega)]
                      omega
                    by_cases e : a ≤ z ∧ z < y
                    · rw [if_pos e, if_pos (dd.mpr e)]
                    · rw [if_neg e, if_neg (fun q => e (dd.mp q))]
                      rfl
              | succ d ihd =>
                intro y M hy ay m1 m2
                have um : p_X12_usedTo M (nI c) = nI b := by
                  rw [← f2]
                  unfold p_X12_usedTo
                  rw [m1 84 (by omega), m1 105 (by omega)]
                refine vX12_built_112 hS ⟨?_, ?_⟩
                · rw [show (50 * nI c + 8 : Int32) = nI (50 * c + 8) from zx50 c 8]
                  exact znIin (by omega) (by omega)
                · rw [um, nI_1, nI_1, znIc (show y < 2147483648 by omega), m2 y (by omega), if_neg (by omega), Nat.add_zero, nI_1]
                  refine ⟨fun no => ?_, fun _ => ⟨znIin (by omega) (by omega), ihd (y + 1) _ (by omega) (by omega) (fun z hz => ?_) (fun z hz => ?_)⟩⟩
                  · rw [zlt, znI (by omega), znI (by omega)] at no
                    omega
                  · rw [← u2_row _ _ _ _ hz]
                    exact m1 z hz
                  · by_cases e : z = y
                    · rw [e, u2_same, if_pos (by omega)]
                    · rw [u2_ne _ _ _ _ (fun q => e q.2), m2 z hz]
                      by_cases e2 : a ≤ z ∧ z < y
                      · rw [if_pos e2, if_pos (by omega)]
                      · rw [if_neg e2, if_neg (by omega)]
            exact step (b + 1 - a) a K (by omega) (Nat.le_refl _) (fun _ _ => rfl) (fun z hz => by rw [k1 133 (by omega), j1 z hz, if_neg (by omega), Nat.add_zero])
          · unfold zyq at y
            rw [Bool.and_eq_true] at y
            have := k5.mpr y.2
            rw [z] at this
            exact absurd this (by decide)
        · unfold zyq at y
          rw [Bool.and_eq_true] at y
          exact (ztest_0 (by omega)).mp no (zbb_iff.mp y.1)
  have clear : ∀ (d y : Nat) (J : zFI), y + d = 1000 → (∀ z, z ≠ 133 → J z = I z) → (∀ z, z < y → J 133 z = 0) → ZW G mX12_built fX12_built lX12_built 29 [zo G 84, .int (nI c), .int (nI g), .int v3, .int (nI y), .null, .null] [] S J L 0 0 Q := by
    intro d
    induction d with
    | zero =>
      intro y J hy j1 j2
      rw [show y = 1000 by omega] at j2 ⊢
      refine vX12_built_29 hS ⟨fun _ => all n 0 J (by omega) ⟨fun z hz => j1 z (fun y => hz (by rw [y]; decide)), by rw [j1 77 (by omega)], fun k _ => by rw [j1 84 (by omega)]⟩ (by rw [j1 125 (by omega)]; exact hF) (fun z hz => j2 z hz), fun no => absurd (Int32.le_refl _) no⟩
    | succ d ih =>
      intro y J hy j1 j2
      refine vX12_built_29 hS ⟨fun no => absurd no (nI_ge (b := 1000) (by omega) (by omega)), fun _ => ⟨znIin (by omega) (by omega), ?_⟩⟩
      rw [nI_1, znIc (by omega)]
      refine ih (y + 1) _ (by omega) (fun z hz => ?_) (fun z hz => ?_)
      · rw [← u2_row _ _ _ _ hz]
        exact j1 z hz
      · by_cases e : z = y
        · rw [e, u2_same]
        · rw [u2_ne _ _ _ _ (fun q => e q.2)]
          exact j2 z (by omega)
  exact clear 1000 0 I (by omega) (fun _ _ => rfl) (fun z hz => absurd hz (Nat.not_lt_zero _))
