theorem zAft.fr {S : zSh} {I I' J : zFI} {L L' : zFL} {n jn mn tl ln on : Nat} (h : zAft S I L I' L' jn) (hA : iAll S I' n jn mn tl ln on) {K : zFI} (w : zScrd I' K) (f : ∀ b, b ≠ 84 → b ≠ 124 → b ≠ 125 → J b = K b) (f2 : ∀ k, k ≠ 64 → J 84 k = K 84 k) : iAll S J n jn mn tl ln on ∧ zAft S I L J L' jn := h.scr hA (w.trans (zScrd.fr f f2))
theorem zJ2.gth {S : zSh} {I : zFI} {L : zFL} {sj c : Nat} (h : zJ2 S I L sj) (hc : c ≤ 1) : zGth I (44 + 8 * c) (I 14) (I (27 + 8 * c + 5)) (I 16) := by
  obtain ⟨⟨-, f0⟩, ⟨-, f1⟩, -⟩ := h
  rcases (by omega : c = 0 ∨ c = 1) with e | e
  · rw [e]
    exact f0
  · rw [e]
    exact f1
theorem isIn_yes {v : Int32} {a b : Int32} : ¬ p_X12_isIn v a b = 0 ↔ a ≤ v ∧ v ≤ b := by
  rw [isIn_0]
  exact Classical.not_not
theorem op_join {G : Gp} {S : zSh} {I : zFI} {L : zFL} {n jn mn tl ln on : Nat} {v1 v2 : Int32} (h : iAll S I n jn mn tl ln on) (hJ : I 0 16 = 0 → zJ2 S I L (zsj I jn)) : zOpI G mX11_join fX11_join lX11_join mX12_join fX12_join lX12_join [.int v1, .int v2] S I L 0 0 (fun S' I' L' => S' = S ∧ iAll S I' n jn mn tl ln on ∧ zAft S I L I' L' jn) := by
  refine ZC.of' (vX11_join_0 h.1 ⟨fun c1 => ?_, fun c1 => ⟨_, rfl, ?_⟩⟩) rfl (Nat.le_of_ble_eq_true rfl) rfl
  · have cv := Classical.not_not.mp (fun q => c1 (isCu_0.mpr q))
    obtain ⟨c, hc, e1⟩ := of_01 cv
    refine c_fresh h hJ (fun I1 L1 A w z a => ⟨rfl, rfl, ?_⟩)
    have hm : ∀ {Q : zPost} {v2 : Int32}, 0 ≤ v2 ∧ v2 ≤ 3 → (∀ J, zScrd I1 J → zMj I1 L1 J c (27 + 8 * c) jn → (v2 = 0 → Q (some (.int (I1 (27 + 8 * c) 12))) S J L1) ∧ (v2 = 1 → Q (some (.int (I1 (27 + 8 * c) 13))) S J L1) ∧ (v2 = 2 → Q (some (.int (p_J13_bitCount_95d88 (L1 (27 + 8 * c) 8 &&& L1 (27 + 8 * c) 5)))) S J L1) ∧ ∀ J', zScrd I1 J' → v2 = 3 → Q (some (.int (I1 (44 + 8 * c) 0))) S J' L1) → ZC G mX12_join fX12_join lX12_join [zo G 84, .int v1, .int v2] S I1 L1 0 0 Q := fun {Q v2} hv k => by
      rw [e1]
      have in2 : vp_in (nI c) 2 := znIin (by omega) (by omega)
      have cc : (nI c).toNatClampNeg = c := znIc (by omega)
      refine ZC.of' (vX12_join_0 h.1 ⟨fun q => absurd (nI_01 hc) (isIn_01.mp q), fun _ => ⟨fun _ => m_joinsTold A hc z (fun J w m => ⟨rfl, rfl, ?_⟩), fun q => absurd hv (isIn_0 _ _ _ |>.mp q)⟩⟩) rfl (Nat.le_of_ble_eq_true rfl) rfl
      obtain ⟨k0, k1, k2, k3⟩ := k J w m
      rw [cc]
      refine ⟨fun n0 => ⟨fun n1 => ⟨fun n2 => ?_, fun e => ⟨in2, ?_⟩⟩, fun e => ⟨in2, ?_⟩⟩, fun e => ⟨in2, ?_⟩⟩
      · obtain ⟨AJ, -, -⟩ := zScrd.all (L := L1) A w
        refine m_framesOf AJ hc z w m (fun K f1 f2 g _ => ⟨rfl, rfl, ?_⟩)
        have v3 : v2 = 3 := by
          obtain ⟨h1, h2⟩ := hv
          have h1 := zle.mp h1
          have h2 := zle.mp h2
          rw [zeq] at n0 n1 n2 ⊢
          rw [show (0 : Int32).toInt = 0 from rfl] at n0 h1
          rw [show (1 : Int32).toInt = 1 from rfl] at n1
          rw [show (2 : Int32).toInt = 2 from rfl] at n2
          rw [show (3 : Int32).toInt = 3 from rfl] at h2 ⊢
          omega
        have := k3 K (w.trans (zScrd.fr f1 f2)) v3
        rw [(z.gth hc).2.1] at this
        rw [g.1]
        exact this
      · rw [m.2.2.2.1, ← pc64]
        exact k2 e
      · rw [m.2.2.1]
        exact k1 e
      · rw [m.2.1]
        exact k0 e
    have ez : zjid v1 = 27 + 8 * c := by rw [e1]; exact zjid_c hc
    have eg : zgid v1 = 44 + 8 * c := by rw [e1]; exact zgid_c hc
    rw [ez, eg]
    refine ⟨fun e => ⟨cv, _, rfl, ?_⟩, fun e => ⟨cv, _, rfl, ?_⟩, fun e => ⟨cv, ?_⟩, fun e => ⟨cv, _, rfl, ?_⟩, fun n0 n1 n2 n3 => ⟨_, rfl, ?_⟩⟩
    · rw [e]
      exact hm ⟨by decide, by decide⟩ (fun J w m => ⟨fun _ => ⟨rfl, rfl, a.scr A w⟩, fun y => absurd y (by decide), fun y => absurd y (by decide), fun _ _ y => absurd y (by decide)⟩)
    · rw [e]
      exact hm ⟨by decide, by decide⟩ (fun J w m => ⟨fun y => absurd y (by decide), fun _ => ⟨rfl, rfl, a.scr A w⟩, fun y => absurd y (by decide), fun _ _ y => absurd y (by decide)⟩)
    · have hzj : zJn (27 + 8 * c) := by rw [← ez]; exact zjid_or v1
      refine ZC.of' (vX4_forcedCount_0 h.1 hzj (sp_J13_bitCount_95d88 h.1 ⟨_, rfl, rfl, _, rfl, rfl, _, rfl, ?_⟩)) rfl (Nat.le_of_ble_eq_true rfl) rfl
      rw [e]
      exact hm ⟨by decide, by decide⟩ (fun J w m => ⟨fun y => absurd y (by decide), fun y => absurd y (by decide), fun _ => ⟨rfl, rfl, a.scr A w⟩, fun _ _ y => absurd y (by decide)⟩)
    · rw [e]
      exact hm ⟨by decide, by decide⟩ (fun J w m => ⟨fun y => absurd y (by decide), fun y => absurd y (by decide), fun y => absurd y (by decide), fun J' w' _ => ⟨rfl, rfl, a.scr A w'⟩⟩)
    · have cc : ¬ p_X12_isIn v1 0 1 = 0 := fun q => isIn_01.mp q cv
      refine ZC.of' (vX12_join_0 h.1 ⟨fun q => absurd q cc, fun _ => ⟨fun q => ?_, fun _ => ⟨rfl, rfl, a.scr A (zScrd.told I1 0)⟩⟩⟩) rfl (Nat.le_of_ble_eq_true rfl) rfl
      exfalso
      obtain ⟨h1, h2⟩ := isIn_yes.mp q
      have h1 := zle.mp h1
      have h2 := zle.mp h2
      rw [zeq] at n0 n1 n2 n3
      rw [show (0 : Int32).toInt = 0 from rfl] at n0 h1
      rw [show (1 : Int32).toInt = 1 from rfl] at n1
      rw [show (2 : Int32).toInt = 2 from rfl] at n2
      rw [show (3 : Int32).toInt = 3 from rfl] at h2 n3
      omega
  · exact ZC.of' (vX12_join_0 h.1 ⟨fun _ => ⟨rfl, rfl, told_aft h⟩, fun q => absurd (isIn_01.mpr (isCu_0.mp c1)) q⟩) rfl (Nat.le_of_ble_eq_true rfl) rfl
