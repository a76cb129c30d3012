theorem zjid_c {c : Nat} (h : c ≤ 1) : zjid (nI c) = 27 + 8 * c := by
  rcases (by omega : c = 0 ∨ c = 1) with q | q <;> rw [q] <;> rfl
theorem zgid_c {c : Nat} (h : c ≤ 1) : zgid (nI c) = 44 + 8 * c := by
  rcases (by omega : c = 0 ∨ c = 1) with q | q <;> rw [q] <;> rfl
theorem nI_01 {c : Nat} (h : c ≤ 1) : nI c = 0 ∨ nI c = 1 := by
  rcases (by omega : c = 0 ∨ c = 1) with q | q <;> rw [q]
  · exact Or.inl rfl
  · exact Or.inr rfl
theorem of_01 {v : Int32} (h : v = 0 ∨ v = 1) : ∃ c : Nat, c ≤ 1 ∧ v = nI c := by
  rcases h with q | q
  · exact ⟨0, by omega, q⟩
  · exact ⟨1, by omega, q⟩
theorem told_aft {L : zFL} {S : zSh} {I : zFI} {n jn mn tl ln on : Nat} (h : iAll S I n jn mn tl ln on) : iAll S (u2 I 84 0 0) n jn mn tl ln on ∧ zAft S I L (u2 I 84 0 0) L jn := by
  obtain ⟨a, b, c⟩ := h.told (L := L) 0
  exact ⟨a, Or.inl ⟨b, c⟩⟩
theorem c_mate {G : Gp} {S : zSh} {I : zFI} {L : zFL} {n jn mn tl ln on : Nat} {Q : zPost} {v1 v2 : Int32} (h : iAll S I n jn mn tl ln on) (hJ : I 0 16 = 0 → zJ2 S I L (zsj I jn))
    (q1 : ∀ I' L' (c x : Nat), c ≤ 1 → v1 = nI c → x < zsj I' jn → v2 = nI x → iAll S I' n jn mn tl ln on → zJ2 S I' L' (zsj I' jn) → zAft S I L I' L' jn → Q (some (.int (I' (27 + 8 * c + 5) x))) S I' L')
    (q0 : (¬ (v1 = 0 ∨ v1 = 1) ∨ ¬ (0 ≤ v2 ∧ v2 < nI (zsj I jn))) → Q (some (.int (-1))) S I L) : ZC G mX11_mate fX11_mate lX11_mate [zo G 0, .int v1, .int v2] S I L 0 0 Q := by
  have hA := h
  obtain ⟨hS, hNow, hTim, hJnt, hMrk, hShn, hTap, hFlt, hCus, hRng, hLea, hOut, hWrd⟩ := h
  have hj48 := hJnt.2.1
  have sl := zsj_le I jn
  refine ZC.of' (vX11_mate_0 hS ⟨fun c1 => q0 (Or.inl (isCu_0.mp c1)), fun c1 => ?_⟩) rfl (Nat.le_of_ble_eq_true rfl) rfl
  have cv := Classical.not_not.mp (fun q => c1 (isCu_0.mpr q))
  obtain ⟨c, hc, e⟩ := of_01 cv
  refine c_isJoint hS hJnt (fun x hx e2 => ⟨_, rfl, rfl, fun _ => ?_, fun q => absurd q (by decide)⟩) (fun c0 => ⟨_, rfl, rfl, fun q => absurd rfl q, fun _ => q0 (Or.inr c0)⟩)
  refine c_fresh hA hJ (fun I' L' A w z a => ⟨rfl, rfl, cv, ?_⟩)
  have r := q1 I' L' c x hc e (by rw [w.sj]; exact hx) e2 A z a
  have e3 : p_X4_partnerOf I' (zjid v1) v2 = I' (27 + 8 * c + 5) x := by
    rw [e, zjid_c hc, e2]
    exact pick_in (by omega) (by omega)
  rw [e3]
  exact r
theorem vp_jt {I : zFI} {n jn : Nat} {v2 : Int32} (h : iJnt I n jn) : ¬ v2 < 0 → ¬ (u2 I 84 0 0) 84 13 ≤ v2 → vp_in v2 48 := fun a b => by
  have h48 := h.2.1
  have b : ¬ I 84 13 ≤ v2 := b
  refine zvin (m := 48) rfl (Int32.not_lt.mp a) ?_
  rw [h.2.2.1, Int32.not_le, zlt, znI (by omega)] at b
  rw [zlt, show (48 : Int32).toInt = 48 from rfl]
  omega
theorem jt_yes {S : zSh} {I : zFI} {n jn mn tl ln on : Nat} {x : Nat} (h : iAll S I n jn mn tl ln on) (hx : x < zsj I jn) : ¬ p_X12_isJoint (u2 I 84 0 0) (nI x) = 0 := fun q => by
  have A := (h.told (L := fun _ _ => 0) 0).1
  have := h.2.2.2.1.2.1
  have := zsj_le I jn
  exact (mJnt_0 A.2.1 A.2.2.2.1).mp q ⟨nI_pos' (by omega), show nI x < nI (zsj I jn) from nI_lt hx (by omega)⟩
theorem jt_no {S : zSh} {I : zFI} {n jn mn tl ln on : Nat} {v : Int32} (h : iAll S I n jn mn tl ln on) (hx : ¬ (0 ≤ v ∧ v < nI (zsj I jn))) : p_X12_isJoint (u2 I 84 0 0) v = 0 := by
  have A := (h.told (L := fun _ _ => 0) 0).1
  exact (mJnt_0 A.2.1 A.2.2.2.1).mpr hx
theorem zMj.told {I J : zFI} {L : zFL} {c j jn : Nat} (h : zMj (u2 I 84 0 0) L J c j jn) (hj : j + 5 < 84) : zMj I L J c j jn := by
  unfold zMj at h ⊢
  have e5 : (u2 I 84 0 0) (j + 5) = I (j + 5) := (u2_row _ _ _ _ (by omega)).symm
  have e0 : (u2 I 84 0 0) j = I j := (u2_row _ _ _ _ (by omega)).symm
  rw [e5, e0] at h
  exact h
/-- the model's joins after a question is told -/
theorem m_joinsTold2 {G : Gp} {S : zSh} {I : zFI} {L : zFL} {n jn mn tl ln : Nat} {Q : zPost} {c : Nat} (h : iMid S I n jn mn tl ln) (hc : c ≤ 1) (hJ : zJ2 S I L (zsj I jn)) (q : ∀ I', zScrd I I' → zMj I L I' c (27 + 8 * c) jn → zMj I L I' 0 27 jn → Q none S I' L) : ZC G mX12_findJoins fX12_findJoins lX12_findJoins [zo G 84, .int (nI c)] S (u2 I 84 0 0) L 0 0 Q := by
  have w := zScrd.told I 0
  exact m_findJoins2 (zScrd.mid h w) hc (by rw [w.sj]; exact hJ.scr h.1 w) (fun I' r m m0 => q I' (w.trans r.scr) (m.told (by omega)) (m0.told (by omega)))
theorem m_joinsTold {G : Gp} {S : zSh} {I : zFI} {L : zFL} {n jn mn tl ln on : Nat} {Q : zPost} {c : Nat} (h : iAll S I n jn mn tl ln on) (hc : c ≤ 1) (hJ : zJ2 S I L (zsj I jn)) (q : ∀ I', zScrd I I' → zMj I L I' c (27 + 8 * c) jn → Q none S I' L) : ZC G mX12_findJoins fX12_findJoins lX12_findJoins [zo G 84, .int (nI c)] S (u2 I 84 0 0) L 0 0 Q := m_joinsTold2 h.mid hc hJ (fun I' w m _ => q I' w m)
theorem op_mate {G : Gp} {S : zSh} {I : zFI} {L : zFL} {n jn mn tl ln on : Nat} {v1 v2 : Int32} (h : iAll S I n jn mn tl ln on) (hJ : I 0 16 = 0 → zJ2 S I L (zsj I jn)) : zOpI G mX11_mate fX11_mate lX11_mate mX12_mate fX12_mate lX12_mate [.int v1, .int v2] S I L 0 0 (fun S' I' L' => S' = S ∧ iAll S I' n jn mn tl ln on ∧ zAft S I L I' L' jn) := by
  refine c_mate h hJ (fun I1 L1 c x hc e1 hx e2 A z a => ⟨_, rfl, ?_⟩) (fun no => ⟨_, rfl, ?_⟩)
  · have h48 := A.2.2.2.1.2.1
    have sl := zsj_le I1 jn
    rw [e1, e2]
    refine ZC.of' (vX12_mate_0 h.1 ⟨fun q => absurd (nI_01 hc) (isIn_01.mp q), fun _ => ⟨vp_jt A.2.2.2.1, fun _ => m_joinsTold A hc z (fun J w m => ⟨rfl, rfl, ?_, ?_⟩), fun q => absurd q (jt_yes A hx)⟩⟩) rfl (Nat.le_of_ble_eq_true rfl) rfl
    · rw [zx48]
      exact znIin (by omega) (by omega)
    · rw [zx48, znIc (by omega), m.1 x (by omega)]
      exact ⟨rfl, rfl, a.scr A w⟩
  · refine ZC.of' (vX12_mate_0 h.1 ⟨fun _ => ⟨rfl, rfl, told_aft h⟩, fun q => ⟨vp_jt h.2.2.2.1, fun y => ?_, fun _ => ⟨rfl, rfl, told_aft h⟩⟩⟩) rfl (Nat.le_of_ble_eq_true rfl) rfl
    have cv := Classical.not_not.mp (fun y => q (isIn_01.mpr y))
    exact absurd (jt_no h (no.resolve_left (fun y => y cv))) y
