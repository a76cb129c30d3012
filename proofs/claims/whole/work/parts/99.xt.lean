/-! what holds at the law's loop head -/
def zIn (S : zSh) (I : zFI) (L : zFL) : Prop := ∃ n jn mn tl ln on, iAll S I n jn mn tl ln on ∧ (I 0 16 = 0 → zJ2 S I L (zsj I jn)) ∧ (I 0 16 = 0 → zRs S I L)
def zBg (S : zSh) (σ : Nat) : Prop := ∃ k, k ≤ 16 ∧ zwl S = 2 ^ k ∧ zN S ≤ 139 + 2 * k ∧ σ ≤ 200000 + 4 * 2 ^ k
/-- behind both calls -/
def zNe (S : zSh) (σ : Nat) (S' : zSh) (I' : zFI) (L' : zFL) : Prop := ∃ σ', zGrw S S' σ σ' ∧ zIn S' I' L' ∧ zBg S' σ'
theorem ne_same {S S' : zSh} {I I' : zFI} {L L' : zFL} {σ n jn mn tl ln on n' mn' tl' ln' on' : Nat} (h : iAll S I n jn mn tl ln on) (g : zBg S σ) (hJ : I 0 16 = 0 → zJ2 S I L (zsj I jn)) (hR : I 0 16 = 0 → zRs S I L) (e : S' = S) (h' : iAll S I' n' jn mn' tl' ln' on') (w : zSameJ I L I' L' jn) (es : I' 0 16 = I 0 16) : zNe S σ S' I' L' := by
  subst e
  exact ⟨σ, Or.inl ⟨rfl, rfl⟩, ⟨n', jn, mn', tl', ln', on', h', fun y => (hJ (es.symm.trans y)).same h w, fun y => (hR (es.symm.trans y)).same h (hJ (es.symm.trans y)) w⟩, g⟩
theorem ne_stale {S S' : zSh} {I' : zFI} {L' : zFL} {σ n' jn' mn' tl' ln' on' : Nat} (g : zBg S σ) (e : S' = S) (h' : iAll S I' n' jn' mn' tl' ln' on') (es : I' 0 16 = 1) : zNe S σ S' I' L' := by
  subst e
  exact ⟨σ, Or.inl ⟨rfl, rfl⟩, ⟨n', jn', mn', tl', ln', on', h', fun y => absurd (es.symm.trans y) (by decide), fun y => absurd (es.symm.trans y) (by decide)⟩, g⟩
theorem ne_aft {S S' : zSh} {I I' : zFI} {L L' : zFL} {σ n jn mn tl ln on on' : Nat} (h : iAll S I n jn mn tl ln on) (g : zBg S σ) (hJ : I 0 16 = 0 → zJ2 S I L (zsj I jn)) (hR : I 0 16 = 0 → zRs S I L) (e : S' = S) (h' : iAll S I' n jn mn tl ln on') (w : zAft S I L I' L' jn) : zNe S σ S' I' L' := by
  rcases w with ⟨w1, w2⟩ | ⟨w1, w2, w3, w4⟩
  · exact ne_same h g hJ hR e h' w1 w2
  · subst e
    exact ⟨σ, Or.inl ⟨rfl, rfl⟩, ⟨n, jn, mn, tl, ln, on', h', fun _ => w2, fun _ => zRs.none w3 w4⟩, g⟩
theorem bg_grow {S : zSh} {σ m : Nat} (g : zBg S σ) (hm : m ≤ 16) (lt : zwl S < 2 ^ m) : zBg (zgw S (2 ^ m)) (σ + 2 * 2 ^ m) := by
  obtain ⟨k, k1, k2, k3, k4⟩ := g
  have km : k < m := Classical.byContradiction (fun y => by
    have := Nat.pow_le_pow_right (show 0 < 2 by omega) (show m ≤ k by omega)
    omega)
  have e : 2 ^ (k + 1) ≤ 2 ^ m := Nat.pow_le_pow_right (by omega) km
  rw [Nat.pow_succ] at e
  refine ⟨m, hm, zgw_wl, ?_, by omega⟩
  show zN S + 1 + 1 ≤ _
  omega
theorem ne_po {S S' : zSh} {I I' : zFI} {L L' : zFL} {σ n jn mn tl ln on : Nat} (h : iAll S I n jn mn tl ln on) (g : zBg S σ) (hJ : I 0 16 = 0 → zJ2 S I L (zsj I jn)) (hR : I 0 16 = 0 → zRs S I L) (w : zPo S I L n jn mn tl ln on S' I' L') : zNe S σ S' I' L' := by
  obtain ⟨w1, w2, w3⟩ := w
  rcases w3 with ⟨e, w4, w5⟩ | ⟨w4, w5, w6⟩
  · subst e
    exact ne_same h g hJ hR rfl w2 w4 w5
  · have hin : zIn S' I' L' := ⟨n, jn, mn, tl, ln, on, w2, fun _ => w5, fun _ => w6⟩
    rcases w1 with e | ⟨m, m1, m2, m3⟩
    · subst e
      exact ⟨σ, Or.inl ⟨rfl, rfl⟩, hin, g⟩
    · subst m2
      exact ⟨_, Or.inr ⟨_, rfl, rfl⟩, hin, bg_grow g m1 m3⟩
theorem ne_cp {S S' : zSh} {I I' : zFI} {L L' : zFL} {σ n jn mn ln on : Nat} (g : zBg S σ) (hJ : I 0 16 = 0 → zJ2 S I L (zsj I jn)) (hR : I 0 16 = 0 → zRs S I L) (w : zCp S I L n jn mn ln on S' I' L') : zNe S σ S' I' L' := by
  obtain ⟨⟨a1, a2, a3⟩, ⟨tl, b⟩, c⟩ := w
  obtain ⟨k, k1, k2, k3, k4⟩ := g
  refine ⟨σ, Or.inl ⟨a1, rfl⟩, ⟨n, jn, mn, tl, ln, on, b, fun y => ?_, fun y => ?_⟩, ⟨k, k1, a3.trans k2, by rw [a1]; exact k3, k4⟩⟩
  · rcases c with c | ⟨c1, c2, c3⟩
    · exact absurd (c.symm.trans y) (by decide)
    · exact c2 (hJ (c1.symm.trans y))
  · rcases c with c | ⟨c1, c2, c3⟩
    · exact absurd (c.symm.trans y) (by decide)
    · exact c3 (hR (c1.symm.trans y))
