/-- the partner of a tenon is a hole -/
theorem zhole_of {I : zFI} {L : zFL} {r sj j : Nat} {dl : Nat → Prop} {M : Nat → Nat} (hsj : sj ≤ 48) (h : zJb I L j (zF I r sj dl) (zw I) M) (x y : Nat) (hx : x < 48) (hy : y < 48) (hn : ¬ I (j + 5) x = -1) (hs : I 16 x = 0) (e : I (j + 5) x = nI y) : ¬ I 16 y = 0 := fun sy => by
  obtain ⟨b, p, -⟩ := h
  have hv := b.1.1
  have Fs : ∀ t h, zF I r sj dl t h → t < sj ∧ I 16 t = 0 ∧ I 16 h = 1 := fun t h q => ⟨q.1.1, q.1.2.1, q.2.1.2.1⟩
  by_cases c : jTn (zF I r sj dl) x
  · have p1 := (p x hx).1 c
    by_cases d : M x = 50
    · rw [if_pos d] at p1
      exact hn p1
    · rw [if_neg d, e] at p1
      have f := (hv.1 x hx).resolve_left d
      have big := f.2.1.1
      have := nI_same (by omega) (by omega) p1
      rw [← this] at f
      rw [(Fs _ _ f).2.2] at sy
      exact absurd sy (by decide)
  · by_cases d : jHl (zF I r sj dl) x
    · obtain ⟨t, q⟩ := d
      rw [(Fs _ _ q).2.2] at hs
      exact absurd hs (by decide)
    · exact hn ((p x hx).2.2 c d)
