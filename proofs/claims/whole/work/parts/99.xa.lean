/-- behind a question about raisings -/
def zPo (S : zSh) (I : zFI) (L : zFL) (n jn mn tl ln on : Nat) (S' : zSh) (I' : zFI) (L' : zFL) : Prop := zGs S S' ∧ iAll S' I' n jn mn tl ln on ∧ ((S' = S ∧ zSameJ I L I' L' jn ∧ I' 0 16 = I 0 16) ∨ (I' 0 16 = 0 ∧ zJ2 S' I' L' (zsj I' jn) ∧ zRs S' I' L'))
theorem zPo_told {L : zFL} {S : zSh} {I : zFI} {n jn mn tl ln on : Nat} (h : iAll S I n jn mn tl ln on) : zPo S I L n jn mn tl ln on S (u2 I 84 0 0) L := by
  obtain ⟨a, b, c⟩ := zScrd.all (L := L) h (zScrd.told I 0)
  exact ⟨Or.inl rfl, a, Or.inl ⟨rfl, b, c⟩⟩
theorem st_scr {J : zFI} {L M : zFL} {S : zSh} {I : zFI} {n jn mn tl ln on : Nat} (h : iAll S I n jn mn tl ln on) (e : I 0 16 = 0) (z : zJ2 S I L (zsj I jn)) (R : zRs S I L) (w : zScrd I J) (l : ∀ a, a ≤ 59 → M a = L a) : iAll S J n jn mn tl ln on ∧ J 0 16 = 0 ∧ zJ2 S J M (zsj J jn) ∧ zRs S J M := by
  obtain ⟨a, -, c⟩ := zScrd.all (L := L) h w
  have big : ∀ x, x ∈ zScr → 67 ≤ x ∧ x ≠ 83 := by decide
  have row : ∀ x, x < 67 → J x = I x := fun x hx => w.1 x (fun y => by
    have := (big x y).1
    omega)
  refine ⟨a, c.trans e, ?_, R.scr h.1 w (fun a _ h2 => l a h2)⟩
  rw [w.sj]
  refine z.grow h.1 (fun _ => rfl) (fun a _ _ => row a (by omega)) (w.1 83 (by decide)) (fun f hf => ?_) (fun f d hf _ _ => ?_) (fun j hj => ?_)
  · have : f = 44 ∨ f = 52 := hf
    rw [row f (by omega)]
  · have : f = 44 ∨ f = 52 := hf
    exact row _ (by omega)
  · have : j = 27 ∨ j = 35 := hj
    exact l j (by omega)
theorem zPo_scr {S0 : zSh} {I0 J : zFI} {L0 L M : zFL} {S : zSh} {I : zFI} {n jn mn tl ln on : Nat} (h : iAll S I n jn mn tl ln on) (gs : zGs S0 S) (e : I 0 16 = 0) (z : zJ2 S I L (zsj I jn)) (R : zRs S I L) (w : zScrd I J) (l : ∀ a, a ≤ 59 → M a = L a) : zPo S0 I0 L0 n jn mn tl ln on S J M := by
  obtain ⟨a, b, c, d⟩ := st_scr h e z R w l
  exact ⟨gs, a, Or.inr ⟨b, c, d⟩⟩
theorem iCus_c {S : zSh} {I : zFI} {c : Nat} (h : iCus S I) (hc : c ≤ 1) : iCu1 I (zrl S (nI c)) c := by
  rcases (by omega : c = 0 ∨ c = 1) with e | e
  · rw [e]; exact h.1
  · rw [e]; exact h.2
/-- the model's raising of a frame that the class has raised -/
theorem m_found {G : Gp} {S : zSh} {I : zFI} {L : zFL} {n jn mn tl ln on : Nat} {Q : zPost} {c g : Nat} (h : iAll S I n jn mn tl ln on) (hc : c ≤ 1) (z : zJ2 S I L (zsj I jn)) (R : zRs S I L) (hg : g < 8) (hb : zb (I (44 + 8 * c) 5) g) (m4 : ∀ a, a < 16 → ¬ I (44 + 8 * c + 1) a = 0 → I 124 a = I (44 + 8 * c + 1) a) (mg : zMg I (I (44 + 8 * c + 1)))
    (q : ∀ J L' (m : Nat) (tm : Nat → Nat), zScrd I J → (∀ a, a ≤ 59 → L' a = L a) → m ≤ 16 → J 84 66 = nI m → (∀ i, i < m → tm i < 16 ∧ J 126 i = nI (tm i)) → zWy (J 128) m (L' 130) → L (44 + 8 * c + 6) g = L' 130 (2 ^ m - 1) →
      (L' 130 (2 ^ m - 1) = 0 → I (44 + 8 * c + 5) g = -1 ∧ J 129 0 = 1000000 ∧ ∀ i, i < 16 → I (44 + 8 * c + 7) (16 * g + i) = -1) →
      (¬ L' 130 (2 ^ m - 1) = 0 → I (44 + 8 * c + 5) g = J 129 0 ∧ 0 ≤ (J 129 0).toInt ∧ (J 129 0).toInt ≤ 16 ∧ (∀ i, i < 16 → m ≤ i → I (44 + 8 * c + 7) (16 * g + i) = -1) ∧ ∃ se ch : Nat → Nat, se 0 = 0 ∧ ∀ k, k < m → se k < 2 ^ m ∧ ch k < m ∧ zcc (J 128) (ch k) (se k) ∧
        zmx (J 129 (se k ||| 2 ^ ch k)) (zpr (J 127) (J 105 (50 * c + 3)) m (se k ||| 2 ^ ch k)) ≤ J 129 0 ∧ (∀ j, j < ch k → ¬ (zcc (J 128) j (se k) ∧ zmx (J 129 (se k ||| 2 ^ j)) (zpr (J 127) (J 105 (50 * c + 3)) m (se k ||| 2 ^ j)) ≤ J 129 0)) ∧ se (k + 1) = se k ||| 2 ^ ch k ∧ I (44 + 8 * c + 7) (16 * g + k) = nI (tm (ch k))) →
      Q none S J L') : ZC G mX12_findRaisings fX12_findRaisings lX12_findRaisings [zo G 84, .int (nI c), .int (I 125 g)] S I L 0 0 Q := by
  have hS := h.1
  have r := (hS.rl (nI_01 hc)).2
  have hu := iCus_c h.2.2.2.2.2.2.2.2.1 hc
  obtain ⟨t, t1, t2, t3, t4⟩ := R c g hc hg hb
  have e125 : I 125 g = zcm (I (44 + 8 * c + 1)) t := by
    have := mg.2 t t1 t2
    rw [t3] at this
    exact this
  obtain ⟨p1, p2, p3⟩ := z.pr h hc
  rw [e125]
  refine m_raisings (mt := I (44 + 8 * c + 1)) hS hc r hu h.2.2.1 (fun x hx y => ⟨?_, m4 x hx (zmem_mate (zMt_sym p1 p3) t1 (by omega) t2 y)⟩) (fun J L' tm a1 a2 a3 a4 a5 a6 a7 a8 a9 a10 => ?_)
  · obtain ⟨j, j1, j2⟩ := z.kind h hc t1 hx t2 y
    have lt := (h.2.2.2.1.2.2.2.1 j j1).2.2.2.2.2.2.1
    have n16 := h.2.2.1.2.1
    rw [j2, zlt, znI (by omega), znI (by omega)] at lt
    omega
  · obtain ⟨u1, u2', u3⟩ := zRt_use t4 a4 a6 a7 a10 a8
    have w : zScrd I J := ⟨fun b hb => a1 b (fun y => hb (by rw [y]; decide)) (fun y => hb (by rw [y]; decide)) (fun y => hb (by rw [y]; decide)) (fun y => hb (by rw [y]; decide)) (fun y => hb (by rw [y]; decide)), by rw [a1 77 (by omega) (by omega) (by omega) (by omega) (by omega)], fun k hk => a2 k (fun y => by
      rw [y] at hk
      exact absurd hk (by decide))⟩
    have e105 : J 105 (50 * c + 3) = I (zrl S (nI c)) 3 := by
      rw [a1 105 (by omega) (by omega) (by omega) (by omega) (by omega)]
      exact hu.1 3 (by omega)
    refine q J L' (zcnt (zbb (zcm (I (44 + 8 * c + 1)) t)) 16) tm w (fun a ha => a9 a (by omega)) (zcnt_le _ 16) a3 (fun i hi => ⟨(a4 i hi).1, a5 i hi⟩) a10 u1 u2' ?_
    rw [e105]
    exact u3
