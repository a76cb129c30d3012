/-! what is joined: the seen joints, idle ones, that fit -/
def pT (I : zFI) (sj : Nat) (s : Int32) (dl : Nat → Prop) (x : Nat) : Prop := x < sj ∧ I 16 x = s ∧ dl x
def zF (I : zFI) (r sj : Nat) (dl : Nat → Prop) (t h : Nat) : Prop := pT I sj 0 dl t ∧ pT I sj 1 dl h ∧ zFt I r t h
def zw (I : zFI) (t h : Nat) : Int := (I 17 h).toInt - (I 17 t).toInt
theorem zFt_w {I : zFI} {r t h n jn c : Nat} (hTim : iTim I n) (hJnt : iJnt I n jn) (hCu : iCu1 I r c) (ht : t < jn) (hh : h < jn) (hf : zFt I r t h) : 0 ≤ zw I t h ∧ zw I t h ≤ 3 ∧ (I 17 h - I 17 t).toInt = zw I t h := by
  obtain ⟨a, ka, a1, a2, a3, a4, a5, a6⟩ := kind_of hTim hJnt ht
  obtain ⟨b, kb, b1, b2, b3, b4, b5, b6⟩ := kind_of hTim hJnt hh
  have F := (canFit_iff (r := r) hJnt hTim.2.1 ht hh a5 b5).mp hf.2
  obtain ⟨-, -, -, -, -, -, -, -, -, -, c1, c2, -⟩ := hJnt.2.2.2.1 t ht
  obtain ⟨-, -, -, -, -, -, -, -, -, -, d1, d2, -⟩ := hJnt.2.2.2.1 h hh
  obtain ⟨-, -, -, -, -, u2', -⟩ := hCu
  have c1 := zle.mp c1
  have c2 := zle.mp c2
  have d1 := zle.mp d1
  have d2 := zle.mp d2
  have u2' := zle.mp u2'
  rw [show (1 : Int32).toInt = 1 from rfl] at c1 d1
  rw [show (9 : Int32).toInt = 9 from rfl] at c2 d2
  rw [show (3 : Int32).toInt = 3 from rfl] at u2'
  have e : (I 17 h - I 17 t).toInt = (I 17 h).toInt - (I 17 t).toInt := zsub (by omega) (by omega)
  have f1 := fun q => F.2.1 (zlt.mpr q)
  have f2 := zle.mp F.2.2.1
  rw [e] at f1 f2
  have f1 : ¬ (I 17 h).toInt - (I 17 t).toInt < 0 := f1
  unfold zw
  exact ⟨by omega, by omega, e⟩
theorem zF_ok {I : zFI} {r sj n jn c : Nat} {dl : Nat → Prop} (hTim : iTim I n) (hJnt : iJnt I n jn) (hCu : iCu1 I r c) (hsj : sj ≤ jn) : jOk (zF I r sj dl) (zw I) := by
  intro t h hf
  have h48 := hJnt.2.1
  obtain ⟨⟨t1, t2, t3⟩, ⟨h1, h2, h3⟩, hf⟩ := hf
  have := zFt_w hTim hJnt hCu (by omega) (by omega) hf
  refine ⟨by omega, by omega, this.1, this.2.1, fun x q => ?_, fun x q => ?_⟩
  · have := q.1.2.1
    rw [h2] at this
    exact absurd this (by decide)
  · have := q.2.1.2.1
    rw [t2] at this
    exact absurd this (by decide)
def zSr (I J : zFI) : Prop := (∀ b, b ∉ ([84, 107, 108, 109, 110, 111, 112, 113, 114, 115, 116, 117, 118] : List Nat) → J b = I b) ∧ J 77 0 = I 77 0 ∧ ∀ k, k ∉ ([39, 42, 43, 50, 51, 52, 53] : List Nat) → J 84 k = I 84 k
theorem zSr.refl (I : zFI) : zSr I I := ⟨fun _ _ => rfl, rfl, fun _ _ => rfl⟩
theorem zSr.trans {I J K : zFI} (h : zSr I J) (g : zSr J K) : zSr I K := ⟨fun b hb => (g.1 b hb).trans (h.1 b hb), g.2.1.trans h.2.1, fun k hk => (g.2.2 k hk).trans (h.2.2 k hk)⟩
theorem zSr.scr {I J : zFI} (h : zSr I J) : zScrd I J := by
  have e1 : ∀ b, b ∈ ([84, 107, 108, 109, 110, 111, 112, 113, 114, 115, 116, 117, 118] : List Nat) → b ∈ zScr := by decide
  have e2 : ∀ k, k ∈ ([39, 42, 43, 50, 51, 52, 53] : List Nat) → k ∉ zKeep84 := by decide
  exact ⟨fun b hb => h.1 b (fun q => hb (e1 b q)), h.2.1, fun k hk => h.2.2 k (fun q => e2 k q hk)⟩
theorem zSg.sr {I J : zFI} (h : zSg I J) : zSr I J := by
  have e1 : ∀ b, b ∈ ([84, 107] : List Nat) → b ∈ ([84, 107, 108, 109, 110, 111, 112, 113, 114, 115, 116, 117, 118] : List Nat) := by decide
  have e2 : ∀ k, k ∈ ([39] : List Nat) → k ∈ ([39, 42, 43, 50, 51, 52, 53] : List Nat) := by decide
  exact ⟨fun b hb => h.1 b (fun q => hb (e1 b q)), h.2.1, fun k hk => h.2.2 k (fun q => hk (e2 k q))⟩
theorem mSame.sr {I J : zFI} (h : mSame I J) : zSr I J := by
  have e1 : ∀ b, b ∉ ([84, 107, 108, 109, 110, 111, 112, 113, 114, 115, 116, 117, 118] : List Nat) → b ≠ 84 ∧ b ≠ 111 ∧ b ≠ 112 ∧ b ≠ 116 ∧ b ≠ 117 ∧ b ≠ 118 := fun b hb => by
    simp only [List.mem_cons, List.mem_nil_iff, or_false, not_or] at hb
    omega
  refine ⟨fun b hb => ?_, by rw [h.1 77 (by decide) (by decide) (by decide) (by decide) (by decide) (by decide)], fun k hk => h.2 k (fun q => hk (by rw [q]; decide)) (fun q => hk (by rw [q]; decide))⟩
  obtain ⟨a1, a2, a3, a4, a5, a6⟩ := e1 b hb
  exact h.1 b a1 a2 a3 a4 a5 a6
theorem zSr_row {I J : zFI} {a k : Nat} {v : Int32} (h : zSr I J) (ha : a ∈ ([107, 108, 109, 110, 111, 112, 113, 114, 115, 116, 117, 118] : List Nat)) : zSr I (u2 J a k v) := by
  have e1 : ∀ b, b ∈ ([107, 108, 109, 110, 111, 112, 113, 114, 115, 116, 117, 118] : List Nat) → b ∈ ([84, 107, 108, 109, 110, 111, 112, 113, 114, 115, 116, 117, 118] : List Nat) ∧ b ≠ 77 ∧ b ≠ 84 := by decide
  obtain ⟨x1, x2, x3⟩ := e1 a ha
  refine ⟨fun b hb => ?_, ?_, fun k' hk => ?_⟩
  · rw [← u2_row _ _ _ _ (show b ≠ a from fun q => hb (by rw [q]; exact x1))]
    exact h.1 b hb
  · rw [u2_ne _ _ _ _ (fun q => x2 q.1.symm)]
    exact h.2.1
  · rw [u2_ne _ _ _ _ (fun q => x3 q.1.symm)]
    exact h.2.2 k' hk
theorem zSr_84 {I J : zFI} {k : Nat} {v : Int32} (h : zSr I J) (hk : k ∈ ([39, 42, 43, 50, 51, 52, 53] : List Nat)) : zSr I (u2 J 84 k v) := by
  refine ⟨fun b hb => ?_, ?_, fun k' hk' => ?_⟩
  · rw [← u2_row _ _ _ _ (show b ≠ 84 from fun q => hb (by rw [q]; decide))]
    exact h.1 b hb
  · rw [u2_ne _ _ _ _ (by omega)]
    exact h.2.1
  · rw [u2_ne _ _ _ _ (fun q => hk' (by rw [q.2]; exact hk))]
    exact h.2.2 k' hk'
/-- a row of joints, the lesser first, that are all with p below N -/
def mL (p : Nat → Prop) (N n : Nat) (f : Nat → Nat) : Prop := n ≤ N ∧ (∀ i i', i < i' → i' < n → f i < f i') ∧ (∀ i, i < n → f i < N ∧ p (f i)) ∧ ∀ x, x < N → p x → ∃ i, i < n ∧ f i = x
theorem mL_no {p : Nat → Prop} {N n : Nat} {f : Nat → Nat} (h : mL p N n f) (hN : ¬ p N) : mL p (N + 1) n f := by
  obtain ⟨h0, h1, h2, h3⟩ := h
  refine ⟨by omega, h1, fun i hi => ⟨by have := (h2 i hi).1; omega, (h2 i hi).2⟩, fun x hx hp => ?_⟩
  rcases (by omega : x < N ∨ x = N) with q | q
  · exact h3 x q hp
  · rw [q] at hp
    exact absurd hp hN
theorem mL_yes {p : Nat → Prop} {N n : Nat} {f : Nat → Nat} (h : mL p N n f) (hN : p N) : mL p (N + 1) (n + 1) (fun i => if i = n then N else f i) := by
  obtain ⟨h0, h1, h2, h3⟩ := h
  refine ⟨by omega, fun i i' hi hi' => ?_, fun i hi => ?_, fun x hx hp => ?_⟩
  · show (if i = n then N else f i) < (if i' = n then N else f i')
    rw [if_neg (by omega)]
    by_cases q : i' = n
    · rw [if_pos q]
      exact (h2 i (by omega)).1
    · rw [if_neg q]
      exact h1 i i' hi (by omega)
  · show (if i = n then N else f i) < N + 1 ∧ p (if i = n then N else f i)
    by_cases q : i = n
    · rw [if_pos q]
      exact ⟨by omega, hN⟩
    · rw [if_neg q]
      have := h2 i (by omega)
      exact ⟨by omega, this.2⟩
  · rcases (by omega : x < N ∨ x = N) with q | q
    · obtain ⟨i, i1, i2⟩ := h3 x q hp
      refine ⟨i, by omega, ?_⟩
      show (if i = n then N else f i) = x
      rw [if_neg (by omega), i2]
    · exact ⟨n, by omega, by rw [q]; exact if_pos rfl⟩
theorem m_findRows {G : Gp} {Q : zPost} {S : zSh} {I : zFI} {L : zFL} {n jn mn tl ln c r : Nat} {dl : Nat → Prop} (h : iMid S I n jn mn tl ln) (hr : zCu r) (hc : c ≤ 1) (hCu : iCu1 I r c) (hid : ∀ x, x < zsj I jn → (c = 1 → (I 119 x = -1 ↔ dl x)) ∧ (c = 0 → dl x))
    (q : ∀ (I' : zFI) (nt nh : Nat) (tn hl : Nat → Nat), zSr I I' → mX I' nt nh tn hl (zF I r (zsj I jn) dl) (zw I) → mL (pT I (zsj I jn) 0 dl) jn nt tn → mL (pT I (zsj I jn) 1 dl) jn nh hl → (∀ i, i < nt → I' 108 i = nI (tn i) ∧ I' 114 i = 0) → (∀ k, k < nh → I' 109 k = nI (hl k) ∧ I' 115 k = 0) → I' 84 52 = -1 → I' 84 53 = -1 → Q none S I' L) : ZC G mX12_findRows fX12_findRows lX12_findRows [zo G 84, .int (nI c)] S I L 0 0 Q := by
  have hA := h
  obtain ⟨hS, hNow, hTim, hJnt, hMrk, hShn, hTap, hFlt, hCus, hRng, hLea, hWrd⟩ := h
  obtain ⟨j1, j2, j3, j4, j5, j6⟩ := id hJnt
  have sl := zsj_le I jn
  generalize hsj : zsj I jn = sj at *
  have hok := zF_ok (dl := dl) hTim hJnt hCu sl
  have allJ : ∀ J, zSr I J → iMid S J n jn mn tl ln := fun J z => z.scr.mid hA
  have e13 : ∀ J, zSr I J → J 84 13 = nI jn := fun J z => (z.2.2 13 (by decide)).trans j3
  have isj : ∀ J, zSr I J → ∀ x, x < jn → (p_X12_isJoint J (nI x) = 0 ↔ ¬ x < sj) := fun J z x hx => by
    have a := allJ J z
    have e : zsj J jn = sj := by rw [z.scr.sj]; exact hsj
    rw [mJnt_0 a.2.1 a.2.2.2.1, e]
    constructor
    · intro w y
      exact w ⟨nI_pos' (by omega), nI_lt y (by omega)⟩
    · rintro w ⟨-, y⟩
      exact w ((nI_ltI (by omega) (by omega)).mp y)
  have r96 : ∀ J, zSr I J → ∀ x, x < jn → J 96 x = I 16 x := fun J z x hx => by rw [z.1 96 (by decide)]; exact (j4 x hx).2.2.1
  have r97 : ∀ J, zSr I J → ∀ x, x < jn → J 97 x = I 17 x := fun J z x hx => by rw [z.1 97 (by decide)]; exact (j4 x hx).2.2.2.1
  have r119 : ∀ J, zSr I J → J 119 = I 119 := fun J z => z.1 119 (by decide)
  have wf : ∀ t h, t < jn → h < jn → zFt I r t h → 0 ≤ zw I t h ∧ zw I t h ≤ 3 ∧ (I 17 h - I 17 t).toInt = zw I t h := fun t h ht hh hf => zFt_w hTim hJnt hCu ht hh hf
  -- the last loop: the holes are free
  have third : ∀ (nt nh : Nat) (tn hl : Nat → Nat), mL (pT I sj 0 dl) jn nt tn → mL (pT I sj 1 dl) jn nh hl → ∀ (d k : Nat) (J : zFI), k + d = nh → zSr I J → J 84 42 = nI nt → J 84 43 = nI nh → (∀ i, i < nt → J 108 i = nI (tn i) ∧ J 114 i = 0) → (∀ k, k < nh → J 109 k = nI (hl k)) → (∀ k', k' < k → J 115 k' = 0) →
      (∀ i k, i < nt → k < nh → (zFt I r (tn i) (hl k) ∧ (J 110 (48 * i + k)).toInt = zw I (tn i) (hl k)) ∨ (¬ zFt I r (tn i) (hl k) ∧ J 110 (48 * i + k) = -1)) → ZW G mX12_findRows fX12_findRows lX12_findRows 210 [zo G 84, .int (nI c), .int (nI k), .null] [] S J L 0 0 Q := by
    intro nt nh tn hl mt mh d
    induction d with
    | zero =>
      intro k J hk z e42 e43 l1 l2 l3 l4
      have : nh = k := by omega
      subst this
      refine vX12_findRows_210 hS ⟨fun _ => ?_, fun hc => ?_⟩
      · generalize hK : u2 (u2 (u2 (u2 J 84 50 0) 84 51 0) 84 52 (-1)) 84 53 (-1) = K
        have kr : ∀ b, b ≠ 84 → K b = J b := fun b hb => by rw [← hK, ← u2_row _ _ _ _ hb, ← u2_row _ _ _ _ hb, ← u2_row _ _ _ _ hb, ← u2_row _ _ _ _ hb]
        have k52 : K 84 52 = -1 := by rw [← hK, u2_ne _ _ _ _ (by omega), u2_same]
        have k53 : K 84 53 = -1 := by rw [← hK, u2_same]
        have k4 : ∀ k, k < 50 → K 84 k = J 84 k := fun k hk => by rw [← hK, u2_ne _ _ _ _ (by omega), u2_ne _ _ _ _ (by omega), u2_ne _ _ _ _ (by omega), u2_ne _ _ _ _ (by omega)]
        have zK : zSr I K := by
          rw [← hK]
          exact zSr_84 (zSr_84 (zSr_84 (zSr_84 z (by decide)) (by decide)) (by decide)) (by decide)
        refine q K nt nh tn hl zK ⟨?_, ?_, ?_, ?_, fun i hi => ?_, fun k hk => ?_, mt.2.1, mh.2.1, fun i k hi hk => ?_, fun i k hi hk hno => ?_, fun t h hf => ?_, hok⟩ mt mh (fun i hi => ?_) (fun k hk => ?_) k52 k53
        · rw [k4 42 (by omega), e42]
        · have := mt.1
          omega
        · rw [k4 43 (by omega), e43]
        · have := mh.1
          omega
        · have := (mt.2.2.1 i hi).1
          omega
        · have := (mh.2.2.1 k hk).1
          omega
        · rw [kr 110 (by decide), kr 114 (by decide), kr 115 (by decide), k52]
          have a1 := (mt.2.2.1 i hi).2
          have a2 := (mh.2.2.1 k hk).2
          have neg : ¬ (-1 : Int32) = nI i := fun y => nI_neg1 (by have := mt.1; omega) y.symm
          rcases l4 i k hi hk with ⟨y1, y2⟩ | ⟨y1, y2⟩
          · have ww := wf _ _ (by have := a1.1; omega) (by have := a2.1; omega) y1
            exact ⟨fun _ => ⟨fun y => by rw [y] at y2; have y2 : (-1 : Int) = zw I (tn i) (hl k) := y2; omega, (l1 i hi).2, l3 k hk, fun y => neg y.1⟩, fun _ => ⟨a1, a2, y1⟩⟩
          · exact ⟨fun y => absurd y.2.2 y1, fun y => absurd y2 y.1⟩
        · rw [kr 110 (by decide)] at hno ⊢
          rcases l4 i k hi hk with ⟨y1, y2⟩ | ⟨y1, y2⟩
          · have ww := wf _ _ (mt.2.2.1 i hi).1 (mh.2.2.1 k hk).1 y1
            exact ⟨y2, ww.1, ww.2.1⟩
          · exact absurd y2 hno
        · obtain ⟨i, i1, i2⟩ := mt.2.2.2 t (by have := hf.1.1; omega) hf.1
          obtain ⟨k, k1, k2⟩ := mh.2.2.2 h (by have := hf.2.1.1; omega) hf.2.1
          exact ⟨i, k, i1, k1, i2, k2⟩
        · rw [kr 108 (by decide), kr 114 (by decide)]
          exact l1 i hi
        · rw [kr 109 (by decide), kr 115 (by decide)]
          exact ⟨l2 k hk, l3 k hk⟩
      · rw [e43] at hc
        exact absurd (Int32.le_refl _) hc
    | succ d ih =>
      intro k J hk z e42 e43 l1 l2 l3 l4
      have := mh.1
      refine vX12_findRows_210 hS ⟨fun hc => ?_, fun _ => ?_⟩
      · rw [e43] at hc
        exact absurd hc (nI_ge (by omega) (by omega))
      · rw [znIc (show k < 2147483648 by omega), nI_1]
        refine ⟨znIin (by omega) (by decide), ih (k + 1) _ (by omega) (zSr_row (zSr_row z (by decide)) (by decide)) (by rw [u2_ne _ _ _ _ (by omega), u2_ne _ _ _ _ (by omega)]; exact e42) (by rw [u2_ne _ _ _ _ (by omega), u2_ne _ _ _ _ (by omega)]; exact e43) (fun i hi => by rw [u2_ne _ _ _ _ (by omega), u2_ne _ _ _ _ (by omega)]; rw [u2_ne _ _ _ _ (by omega), u2_ne _ _ _ _ (by omega)]; exact l1 i hi) (fun k' hk' => by rw [u2_ne _ _ _ _ (by omega), u2_ne _ _ _ _ (by omega)]; exact l2 k' hk') (fun k' hk' => ?_) (fun i k' hi hk' => by rw [u2_ne _ _ _ _ (by omega), u2_ne _ _ _ _ (by omega)]; exact l4 i k' hi hk')⟩
        by_cases y : k' = k
        · rw [y, u2_same]
        · rw [u2_ne _ _ _ _ (fun z => y z.2), u2_ne _ _ _ _ (by omega)]
          exact l3 k' (by omega)
  -- the costs
  have second : ∀ (nt nh : Nat) (tn hl : Nat → Nat), mL (pT I sj 0 dl) jn nt tn → mL (pT I sj 1 dl) jn nh hl → ∀ (d i : Nat) (J : zFI), i + d = nt → zSr I J → J 84 42 = nI nt → J 84 43 = nI nh → (∀ i, i < nt → J 108 i = nI (tn i)) → (∀ i', i' < i → J 114 i' = 0) → (∀ k, k < nh → J 109 k = nI (hl k)) →
      (∀ i' k, i' < i → k < nh → (zFt I r (tn i') (hl k) ∧ (J 110 (48 * i' + k)).toInt = zw I (tn i') (hl k)) ∨ (¬ zFt I r (tn i') (hl k) ∧ J 110 (48 * i' + k) = -1)) → ZW G mX12_findRows fX12_findRows lX12_findRows 106 [zo G 84, .int (nI c), .int (nI i), .null] [] S J L 0 0 Q := by
    intro nt nh tn hl mt mh d
    induction d with
    | zero =>
      intro i J hi z e42 e43 l1 l2 l3 l4
      have : nt = i := by omega
      subst this
      refine vX12_findRows_106 hS ⟨fun _ => third nt nh tn hl mt mh nh 0 J (by omega) z e42 e43 (fun i hi => ⟨l1 i hi, l2 i hi⟩) l3 (fun k' hk' => absurd hk' (Nat.not_lt_zero _)) (fun i k hi hk => l4 i k hi hk), fun hc => ?_⟩
      rw [e42] at hc
      exact absurd (Int32.le_refl _) hc
    | succ d ih =>
      intro i J hi z e42 e43 l1 l2 l3 l4
      have nt48 := mt.1
      have nh48 := mh.1
      have ic : (nI i).toNatClampNeg = i := znIc (by omega)
      have inner : ∀ (d' k : Nat) (K : zFI), k + d' = nh → zSr I K → K 84 42 = nI nt → K 84 43 = nI nh → (∀ i, i < nt → K 108 i = nI (tn i)) → (∀ i', i' < i + 1 → K 114 i' = 0) → (∀ k, k < nh → K 109 k = nI (hl k)) →
          (∀ i' k', i' < i ∨ (i' = i ∧ k' < k) → k' < nh → (zFt I r (tn i') (hl k') ∧ (K 110 (48 * i' + k')).toInt = zw I (tn i') (hl k')) ∨ (¬ zFt I r (tn i') (hl k') ∧ K 110 (48 * i' + k') = -1)) → ZW G mX12_findRows fX12_findRows lX12_findRows 130 [zo G 84, .int (nI c), .int (nI i), .int (nI k)] [] S K L 0 0 Q := by
        intro d'
        induction d' with
        | zero =>
          intro k K hk zK f42 f43 g1 g2 g3 g4
          have : nh = k := by omega
          subst this
          refine vX12_findRows_130 hS ⟨fun _ => ?_, fun hc => ?_⟩
          · rw [nI_1]
            exact ih (i + 1) K (by omega) zK f42 f43 g1 g2 g3 (fun i' k hi' hk => g4 i' k (by omega) hk)
          · rw [f43] at hc
            exact absurd (Int32.le_refl _) hc
        | succ d' ih' =>
          intro k K hk zK f42 f43 g1 g2 g3 g4
          have kc : (nI k).toNatClampNeg = k := znIc (by omega)
          have tt := mt.2.2.1 i (by omega)
          have hh := mh.2.2.1 k (by omega)
          have aK := allJ K zK
          have cuK : iCu1 K r c := by
            have e : K r = I r := zK.1 r (by rcases hr with rfl | rfl | rfl <;> decide)
            unfold iCu1 at hCu ⊢
            rw [zK.1 105 (by decide), e]
            exact hCu
          have ft : zFt K r (tn i) (hl k) ↔ zFt I r (tn i) (hl k) := by
            have er : K r = I r := zK.1 r (by rcases hr with rfl | rfl | rfl <;> decide)
            have e : p_X11_canFit K r (nI (tn i)) (nI (hl k)) = p_X11_canFit I r (nI (tn i)) (nI (hl k)) := by
              unfold p_X11_canFit p_X10_timberOf p_X10_sizeOf p_X10_kindOf p_X1_goesInto p_X6_signsOn p_X6_sideOf p_X11_pick
              rw [er, zK.1 14 (by decide), zK.1 17 (by decide), zK.1 11 (by decide), zK.1 22 (by decide), zK.1 23 (by decide), zK.1 25 (by decide)]
            unfold zFt
            rw [zK.scr.nm hr, zK.scr.nm hr, zK.1 25 (by decide), e]
          have put : ∀ (K1 : zFI) (v : Int32), zSg K K1 → ((zFt I r (tn i) (hl k) ∧ v.toInt = zw I (tn i) (hl k)) ∨ (¬ zFt I r (tn i) (hl k) ∧ v = -1)) → ZW G mX12_findRows fX12_findRows lX12_findRows 130 [zo G 84, .int (nI c), .int (nI i), .int (nI k + 1)] [] S (u2 K1 110 (48 * i + k) v) L 0 0 Q := fun K1 v z1 hv => by
            rw [nI_1]
            refine ih' (k + 1) _ (by omega) (zSr_row (zK.trans z1.sr) (by decide)) (by rw [u2_ne _ _ _ _ (by omega)]; exact (z1.2.2 42 (by decide)).trans f42) (by rw [u2_ne _ _ _ _ (by omega)]; exact (z1.2.2 43 (by decide)).trans f43) (fun i' hi' => by rw [u2_ne _ _ _ _ (by omega), z1.1 108 (by decide)]; exact g1 i' hi') (fun i' hi' => by rw [u2_ne _ _ _ _ (by omega), z1.1 114 (by decide)]; exact g2 i' hi') (fun k' hk' => by rw [u2_ne _ _ _ _ (by omega), z1.1 109 (by decide)]; exact g3 k' hk') (fun i' k' hik hk' => ?_)
            by_cases y : i' = i ∧ k' = k
            · rw [y.1, y.2, u2_same]
              exact hv
            · rw [u2_ne _ _ _ _ (by omega), z1.1 110 (by decide)]
              exact g4 i' k' (by omega) hk'
          refine vX12_findRows_130 hS ⟨fun hc => ?_, fun _ => ?_⟩
          · rw [f43] at hc
            exact absurd hc (nI_ge (by omega) (by omega))
          · rw [ic, kc, g1 i (by omega), g3 k (by omega), zx48, znIc (show 48 * i + k < 2147483648 by omega)]
            refine ⟨znIin (by omega) (by decide), znIin (by omega) (by decide), m_isFit aK hr hc cuK tt.1 hh.1 (fun K1 x z1 o1 o2 => ⟨_, rfl, rfl, fun y => ⟨znIin (by omega) (by decide), put K1 _ z1 (Or.inr ⟨fun w => ?_, rfl⟩)⟩, fun y => ?_⟩)⟩
            · have := o2.mpr (ft.mpr w)
              rw [y] at this
              exact absurd this (by decide)
            · have yes := ft.mp (o2.mp (o1.resolve_left y))
              have zK1 := zK.trans z1.sr
              rw [z1.1 109 (by decide), z1.1 108 (by decide), g1 i (by omega), g3 k (by omega), znIc (show hl k < 2147483648 by have := hh.1; omega), znIc (show tn i < 2147483648 by have := tt.1; omega), r97 K1 zK1 _ hh.1, r97 K1 zK1 _ tt.1]
              exact ⟨znIin (by have := hh.1; omega) (by decide), znIin (by have := tt.1; omega) (by decide), znIin (by omega) (by decide), put K1 _ z1 (Or.inl ⟨yes, (wf _ _ tt.1 hh.1 yes).2.2⟩)⟩
      refine vX12_findRows_106 hS ⟨fun hc => ?_, fun _ => ?_⟩
      · rw [e42] at hc
        exact absurd hc (nI_ge (by omega) (by omega))
      · rw [ic]
        refine ⟨znIin (by omega) (by decide), inner nh 0 _ (by omega) (zSr_row (zSr_row z (by decide)) (by decide)) (by rw [u2_ne _ _ _ _ (by omega), u2_ne _ _ _ _ (by omega)]; exact e42) (by rw [u2_ne _ _ _ _ (by omega), u2_ne _ _ _ _ (by omega)]; exact e43) (fun i' hi' => by rw [u2_ne _ _ _ _ (by omega), u2_ne _ _ _ _ (by omega)]; exact l1 i' hi') (fun i' hi' => ?_) (fun k' hk' => by rw [u2_ne _ _ _ _ (by omega), u2_ne _ _ _ _ (by omega)]; exact l3 k' hk') (fun i' k' hik hk' => by rw [u2_ne _ _ _ _ (by omega), u2_ne _ _ _ _ (by omega)]; exact l4 i' k' (by omega) hk')⟩
        by_cases y : i' = i
        · rw [y, u2_same]
        · rw [u2_ne _ _ _ _ (fun z => y z.2), u2_ne _ _ _ _ (by omega)]
          exact l2 i' (by omega)
  -- the rows
  have first : ∀ (d x : Nat) (J : zFI) (nt nh : Nat) (tn hl : Nat → Nat), x + d = jn → zSr I J → J 84 42 = nI nt → J 84 43 = nI nh → mL (pT I sj 0 dl) x nt tn → mL (pT I sj 1 dl) x nh hl → (∀ i, i < nt → J 108 i = nI (tn i)) → (∀ k, k < nh → J 109 k = nI (hl k)) → ZW G mX12_findRows fX12_findRows lX12_findRows 12 [zo G 84, .int (nI c), .int (nI x), .null] [] S J L 0 0 Q := by
    intro d
    induction d with
    | zero =>
      intro x J nt nh tn hl hx z e42 e43 mt mh l1 l2
      have : jn = x := by omega
      subst this
      refine vX12_findRows_12 hS ⟨fun _ => second nt nh tn hl mt mh nt 0 J (by omega) z e42 e43 l1 (fun i' hi' => absurd hi' (Nat.not_lt_zero _)) l2 (fun i' k hi' => absurd hi' (Nat.not_lt_zero _)), fun hc => ?_⟩
      rw [e13 J z] at hc
      exact absurd (Int32.le_refl _) hc
    | succ d ih =>
      intro x J nt nh tn hl hx z e42 e43 mt mh l1 l2
      have xc : (nI x).toNatClampNeg = x := znIc (by omega)
      have nt48 := mt.1
      have nh48 := mh.1
      have s01 : I 16 x = 0 ∨ I 16 x = 1 := (j4 x (by omega)).2.2.2.2.2.2.2.2.2.1
      have h48 : vp_in (nI x) 48 := znIin (by omega) (by decide)
      have skip : ¬ (x < sj ∧ dl x) → ZW G mX12_findRows fX12_findRows lX12_findRows 12 [zo G 84, .int (nI c), .int (nI x + 1), .null] [] S J L 0 0 Q := fun hno => by
        rw [nI_1]
        exact ih (x + 1) J nt nh tn hl (by omega) z e42 e43 (mL_no mt (fun y => hno ⟨y.1, y.2.2⟩)) (mL_no mh (fun y => hno ⟨y.1, y.2.2⟩)) l1 l2
      have puts : x < sj → dl x → vp_in (nI x) 48 ∧ ((¬ I 16 x = 0 → vp_in (nI nh) 48 ∧ ZW G mX12_findRows fX12_findRows lX12_findRows 12 [zo G 84, .int (nI c), .int (nI x + 1), .null] [] S (u2 (u2 J 109 nh (nI x)) 84 43 (nI nh + 1)) L 0 0 Q) ∧ (I 16 x = 0 → vp_in (nI nt) 48 ∧ ZW G mX12_findRows fX12_findRows lX12_findRows 12 [zo G 84, .int (nI c), .int (nI x + 1), .null] [] S (u2 (u2 J 108 nt (nI x)) 84 42 (nI nt + 1)) L 0 0 Q)) := fun y1 y2 => by
        rw [nI_1, nI_1, nI_1]
        refine ⟨h48, fun y => ⟨znIin (by omega) (by decide), ?_⟩, fun y => ⟨znIin (by omega) (by decide), ?_⟩⟩
        · have s1 := s01.resolve_left y
          refine ih (x + 1) _ nt (nh + 1) tn (fun k => if k = nh then x else hl k) (by omega) (zSr_84 (zSr_row z (by decide)) (by decide)) (by rw [u2_ne _ _ _ _ (by omega), u2_ne _ _ _ _ (by omega)]; exact e42) (by rw [u2_same]) (mL_no mt (fun w => absurd w.2.1 (by rw [s1]; decide))) (mL_yes mh ⟨y1, s1, y2⟩) (fun i hi => by rw [u2_ne _ _ _ _ (by omega), u2_ne _ _ _ _ (by omega)]; exact l1 i hi) (fun k hk => ?_)
          rw [u2_ne _ _ _ _ (by omega)]
          by_cases w : k = nh
          · rw [w, u2_same, if_pos rfl]
          · rw [u2_ne _ _ _ _ (fun z => w z.2), if_neg w]
            exact l2 k (by omega)
        · refine ih (x + 1) _ (nt + 1) nh (fun i => if i = nt then x else tn i) hl (by omega) (zSr_84 (zSr_row z (by decide)) (by decide)) (by rw [u2_same]) (by rw [u2_ne _ _ _ _ (by omega), u2_ne _ _ _ _ (by omega)]; exact e43) (mL_yes mt ⟨y1, y, y2⟩) (mL_no mh (fun w => absurd w.2.1 (by rw [y]; decide))) (fun i hi => ?_) (fun k hk => by rw [u2_ne _ _ _ _ (by omega), u2_ne _ _ _ _ (by omega)]; exact l2 k hk)
          rw [u2_ne _ _ _ _ (by omega)]
          by_cases w : i = nt
          · rw [w, u2_same, if_pos rfl]
          · rw [u2_ne _ _ _ _ (fun z => w z.2), if_neg w]
            exact l1 i (by omega)
      refine vX12_findRows_12 hS ⟨fun hc => ?_, fun _ => ?_⟩
      · rw [e13 J z] at hc
        exact absurd hc (nI_ge (by omega) (by omega))
      · rw [isj J z x (by omega), xc, r96 J z x (by omega), e42, e43, znIc (show nt < 2147483648 by omega), znIc (show nh < 2147483648 by omega), r119 J z]
        refine ⟨fun _ _ => h48, fun y => skip (fun w => y w.1), fun y => ?_⟩
        have y := Classical.not_not.mp y
        obtain ⟨q1, q2⟩ := hid x y
        refine ⟨fun w => ?_, fun w => ⟨znIin (by omega) (by decide), fun v => ?_, fun v => ?_⟩⟩
        · have c0 : c = 0 := by
            rcases (by omega : c = 0 ∨ c = 1) with e | e
            · exact e
            · rw [e] at w
              exact absurd rfl w
          exact puts y (q2 c0)
        · have c1 : c = 1 := (nI_eq (b := 1) (by omega) (by omega)).mp w
          exact puts y ((q1 c1).mp v)
        · have c1 : c = 1 := (nI_eq (b := 1) (by omega) (by omega)).mp w
          exact skip (fun u => v ((q1 c1).mpr u.2))
  refine ZC.of' (vX12_findRows_0 hS (first jn 0 _ 0 0 (fun _ => 0) (fun _ => 0) (by omega) (zSr_84 (zSr_84 (zSr.refl I) (by decide)) (by decide)) (by rw [u2_ne _ _ _ _ (by omega), u2_same]; rfl) (by rw [u2_same]; rfl) ⟨by omega, fun i i' _ h => absurd h (Nat.not_lt_zero _), fun i h => absurd h (Nat.not_lt_zero _), fun x h => absurd h (Nat.not_lt_zero _)⟩ ⟨by omega, fun i i' _ h => absurd h (Nat.not_lt_zero _), fun i h => absurd h (Nat.not_lt_zero _), fun x h => absurd h (Nat.not_lt_zero _)⟩ (fun i h => absurd h (Nat.not_lt_zero _)) (fun i h => absurd h (Nat.not_lt_zero _)))) rfl (Nat.le_of_ble_eq_true rfl) rfl
