theorem zyq_eq {I J : zFI} (w : zScrd I J) {r : Nat} (hr : zCu r) (F : Int32) : zyq J r F = zyq I r F := by
  funext t
  unfold zyq
  rw [(zsp_eq w hr t).2.2.2]
theorem zyN_eq {I J : zFI} (w : zScrd I J) {r : Nat} (hr : zCu r) (F : Int32) (T : Nat) : zyN J r F T = zyN I r F T := by
  funext y
  unfold zyN
  rw [zyq_eq w hr]
  refine zcnt_congr (fun t _ => ?_)
  rw [(zsp_eq w hr t).1, (zsp_eq w hr t).2.2.1]
theorem zJ2.in16 {S : zSh} {I : zFI} {n jn mn tl ln on : Nat} {L : zFL} {c t : Nat} (h : iAll S I n jn mn tl ln on) (hJ : zJ2 S I L (zsj I jn)) (hc : c ≤ 1) (ht : t < 16) (hst : zst (I (44 + 8 * c + 1)) t = true) {x : Nat} (hx : x < 16) (q : zb (zcm (I (44 + 8 * c + 1)) t) x) : x < n := by
  obtain ⟨j, j1, j2⟩ := hJ.kind h hc ht hx hst q
  have lt := (h.2.2.2.1.2.2.2.1 j j1).2.2.2.2.2.2.1
  have n16 := h.2.2.1.2.1
  rw [j2, zlt, znI (by omega), znI (by omega)] at lt
  omega
theorem op_built {G : Gp} {S : zSh} {I : zFI} {L : zFL} {n jn mn tl ln on : Nat} {v1 v2 v3 : Int32} (h : iAll S I n jn mn tl ln on) (hJ : I 0 16 = 0 → zJ2 S I L (zsj I jn)) (hR : I 0 16 = 0 → zRs S I L) : zOpI G mX11_built fX11_built lX11_built mX12_built fX12_built lX12_built [.int v1, .int v2, .int v3] S I L 0 0 (fun S' I' L' => zPo S I L n jn mn tl ln on S' I' L') := by
  refine ZC.of' (vX11_built_0 h.1 (c_isFrame2 h hJ hR (fun I1 L1 c g hc e1 e2 hg A w z R => ?_) (fun I1 L1 c hc e1 no A w z R => ?_) (fun cv => ?_))) rfl (Nat.le_of_ble_eq_true rfl) rfl
  · have g8 : g < 8 := Nat.lt_of_lt_of_le hg (zfc_8 A z hc)
    rw [e1, e2]
    have r := (h.1.rl (nI_01 hc)).2
    obtain ⟨t, t1, t2, t3⟩ := zcnt_nth (p := zst (I1 (44 + 8 * c + 1))) 16 hg
    have e3 := ((z.gth hc).2.2.1 t t1 t2).1
    rw [t3] at e3
    refine ⟨_, rfl, rfl, fun _ => c_builtOf A hc g8 (fun J wJ j0 j3 j4 j5 j16 => ⟨_, rfl, ?_⟩), fun y => absurd y (by decide)⟩
    rw [e3] at j0 j3 j4 j5 j16
    obtain ⟨AJ, eJ, zJ, RJ⟩ := st_scr A w z R wJ (fun _ _ => rfl)
    have fj : zfc J c = zfc I1 c := by
      unfold zfc
      rw [wJ.low (show 44 + 8 * c + 1 < 67 by omega)]
    by_cases out : 0 ≤ v3 ∧ v3 ≤ 3
    · refine ZC.of' (vX12_built_0 h.1 ⟨fun y => absurd y (isIn_yes.mpr out), fun _ => m_hasYes AJ hc zJ (by rw [fj]; exact hg) (fun K rr nr wK mK gK g4 => ⟨rr, rfl, rfl, fun _ => ?_, fun y => absurd y nr⟩)⟩) rfl (Nat.le_of_ble_eq_true rfl) rfl
      obtain ⟨AK, eK, zK', RK⟩ := st_scr AJ eJ zJ RJ wK (fun _ _ => rfl)
      have W := wJ.trans wK
      have e1' : K (44 + 8 * c + 1) = I1 (44 + 8 * c + 1) := W.low (by omega)
      have ej1 : J (44 + 8 * c + 1) = I1 (44 + 8 * c + 1) := wJ.low (by omega)
      rw [ej1] at gK
      have e125 := gK.2 t t1 t2
      rw [t3] at e125
      refine m_built (F := zcm (I1 (44 + 8 * c + 1)) t) AK hc g8 e125 (fun x hx y => z.in16 A hc t1 t2 hx y) out (fun M wM => ?_)
      rw [zyq_eq W r, zyN_eq W r]
      have fin := zPo_scr (S0 := S) (I0 := I) (L0 := L) AK (Or.inl rfl) eK zK' RK wM (fun _ _ => rfl)
      unfold p_X0_found
      refine ⟨fun e => ?_, fun e => ?_, fun e => ?_, fun e => ?_⟩
      · rw [e, if_neg (by decide), if_neg (by decide), if_neg (by decide), if_pos rfl, j0]
        exact ⟨rfl, fin⟩
      · rw [e, if_neg (by decide), if_neg (by decide), if_pos rfl, j0, j5]
        exact ⟨rfl, fin⟩
      · rw [e, if_pos rfl, j3]
        exact ⟨rfl, fin⟩
      · rw [e, if_neg (by decide), if_pos rfl, j4]
        exact ⟨rfl, fin⟩
    · have f1 : p_X0_found J v3 = -1 := by
        unfold p_X0_found
        rw [if_neg (fun y => out (by rw [y]; decide)), if_neg (fun y => out (by rw [y]; decide)), if_neg (fun y => out (by rw [y]; decide)), if_neg (fun y => out (by rw [y]; decide))]
      rw [f1]
      exact ZC.of' (vX12_built_0 h.1 ⟨fun _ => ⟨rfl, zPo_scr A (Or.inl rfl) w z R (wJ.trans (zScrd.told J 0)) (fun _ _ => rfl)⟩, fun q => absurd ((isIn_0 _ _ _).mpr out) q⟩) rfl (Nat.le_of_ble_eq_true rfl) rfl
  · rw [e1]
    refine ⟨_, rfl, rfl, fun y => absurd rfl y, fun _ => ⟨_, rfl, ?_⟩⟩
    exact ZC.of' (vX12_built_0 A.1 ⟨fun _ => ⟨rfl, zPo_scr A (Or.inl rfl) w z R (zScrd.told I1 0) (fun _ _ => rfl)⟩, fun _ => m_hasNone A hc z no (fun K r r0 wK => ⟨r, rfl, rfl, fun y => absurd r0 y, fun _ => ⟨rfl, zPo_scr A (Or.inl rfl) w z R wK (fun _ _ => rfl)⟩⟩)⟩) rfl (Nat.le_of_ble_eq_true rfl) rfl
  · refine ⟨_, rfl, rfl, fun y => absurd rfl y, fun _ => ⟨_, rfl, ?_⟩⟩
    exact ZC.of' (vX12_built_0 h.1 ⟨fun _ => ⟨rfl, zPo_told h⟩, fun _ => m_hasNo h.1 cv ⟨_, rfl, rfl, fun y => absurd rfl y, fun _ => ⟨rfl, zPo_told h⟩⟩⟩) rfl (Nat.le_of_ble_eq_true rfl) rfl
