theorem m_hasNo {G : Gp} {Q : zPost} {S : zSh} {I : zFI} {L : zFL} {v1 v2 : Int32} (hS : zStd S) (no : ¬ (v1 = 0 ∨ v1 = 1)) (q : Q (some (.int 0)) S I L) : ZC G mX12_hasFrame fX12_hasFrame lX12_hasFrame [zo G 84, .int v1, .int v2] S I L 0 0 Q :=
  ZC.of' (vX12_hasFrame_0 hS ⟨fun y => absurd (isIn_01.mpr no) y, fun _ => q⟩) rfl (Nat.le_of_ble_eq_true rfl) rfl
theorem m_hasYes {G : Gp} {S : zSh} {I : zFI} {L : zFL} {n jn mn tl ln on : Nat} {Q : zPost} {c g : Nat} (h : iAll S I n jn mn tl ln on) (hc : c ≤ 1) (hJ : zJ2 S I L (zsj I jn)) (hg : g < zfc I c)
    (q : ∀ K (r : Int32), ¬ r = 0 → zScrd I K → zMj I L K c (27 + 8 * c) jn → zMg K (I (44 + 8 * c + 1)) → (∀ a, a < 16 → ¬ I (44 + 8 * c + 1) a = 0 → K 124 a = I (44 + 8 * c + 1) a) → Q (some (.int r)) S K L) : ZC G mX12_hasFrame fX12_hasFrame lX12_hasFrame [zo G 84, .int (nI c), .int (nI g)] S (u2 I 84 0 0) L 0 0 Q := by
  have f8 := zfc_8 h hJ hc
  exact m_hasFrame h hc hJ (fun K w m g1 g4 => q K _ (fun y => (isIn_cnt (by omega)).mp y ⟨g, hg, rfl⟩) w m g1 g4)
theorem m_hasNone {G : Gp} {S : zSh} {I : zFI} {L : zFL} {n jn mn tl ln on : Nat} {Q : zPost} {c : Nat} {v2 : Int32} (h : iAll S I n jn mn tl ln on) (hc : c ≤ 1) (hJ : zJ2 S I L (zsj I jn)) (no : ∀ g, v2 = nI g → g < 2147483648 → ¬ g < zfc I c)
    (q : ∀ K (r : Int32), r = 0 → zScrd I K → Q (some (.int r)) S K L) : ZC G mX12_hasFrame fX12_hasFrame lX12_hasFrame [zo G 84, .int (nI c), .int v2] S (u2 I 84 0 0) L 0 0 Q := by
  have f8 := zfc_8 h hJ hc
  exact m_hasFrame h hc hJ (fun K w m g1 g4 => q K _ ((isIn_cnt (by omega)).mpr (fun ⟨g, g1, g2⟩ => no g g2 (by omega) g1)) w)
theorem zFm_c {c : Nat} (hc : c ≤ 1) : zFm (44 + 8 * c) := by
  rcases (by omega : c = 0 ∨ c = 1) with e | e
  · rw [e]; exact Or.inl rfl
  · rw [e]; exact Or.inr rfl
theorem zScrd.low {I J : zFI} (w : zScrd I J) {x : Nat} (hx : x < 67) : J x = I x := w.1 x (fun y => by
  have : ∀ x, x ∈ zScr → 67 ≤ x := by decide
  have := this x y
  omega)
/-- the model's frame(2) or frame(3) behind a raising -/
theorem m_frame23 {G : Gp} {S : zSh} {I : zFI} {L : zFL} {n jn mn tl ln on : Nat} {Q : zPost} {c g : Nat} {v3 : Int32} (h : iAll S I n jn mn tl ln on) (hc : c ≤ 1) (hv : v3 = 2 ∨ v3 = 3) (e : I 0 16 = 0) (z : zJ2 S I L (zsj I jn)) (R : zRs S I L) (hg : g < zfc I c) (hb : zb (I (44 + 8 * c) 5) g)
    (q : ∀ J M, zScrd I J → (∀ a, a ≤ 59 → M a = L a) → (v3 = 2 → Q (some (.int (I (44 + 8 * c + 5) g))) S J M) ∧ (v3 = 3 → (lg_cmp (L (44 + 8 * c + 6) g) 0 ≤ 0 → Q (some (.int 0)) S J M) ∧ (¬ lg_cmp (L (44 + 8 * c + 6) g) 0 ≤ 0 → Q (some (.int 1)) S J M))) :
    ZC G mX12_frame fX12_frame lX12_frame [zo G 84, .int (nI c), .int (nI g), .int v3] S I L 0 0 Q := by
  have g8 : g < 8 := Nat.lt_of_lt_of_le hg (zfc_8 h z hc)
  have n0 : ¬ v3 = 0 := fun y => by
    rw [y] at hv
    exact absurd hv (by decide)
  have n1 : ¬ v3 = 1 := fun y => by
    rw [y] at hv
    exact absurd hv (by decide)
  have inn : ¬ p_X12_isIn v3 0 3 = 0 := isIn_yes.mpr (by rcases hv with y | y <;> rw [y] <;> decide)
  refine ZC.of' (vX12_frame_0 h.1 ⟨fun y => absurd y inn, fun _ => m_hasYes h hc z hg (fun K r nr wK mK gK g4 => ⟨r, rfl, rfl, fun _ => ⟨fun _ => ⟨fun _ => ⟨znIin (by omega) (by omega), ?_⟩, fun y => absurd y n1⟩, fun y => absurd y n0⟩, fun y => absurd y nr⟩)⟩) rfl (Nat.le_of_ble_eq_true rfl) rfl
  obtain ⟨AK, eK, zK', RK⟩ := st_scr h e z R wK (fun _ _ => rfl)
  rw [znIc (show g < 2147483648 by omega)]
  have lo : ∀ x, x < 67 → K x = I x := fun x hx => wK.low hx
  have e1 : K (44 + 8 * c + 1) = I (44 + 8 * c + 1) := lo _ (by omega)
  have e5 : K (44 + 8 * c + 5) = I (44 + 8 * c + 5) := lo _ (by omega)
  refine m_found AK hc zK' RK g8 (by rw [lo (44 + 8 * c) (by omega)]; exact hb) (by rw [e1]; exact g4) (by rw [e1]; exact gK) (fun J M m tm wJ l m16 e66 ht V o u0 u1 => ⟨rfl, rfl, ?_⟩)
  have W := wK.trans wJ
  have pos := Nat.two_pow_pos m
  obtain ⟨q2, q3⟩ := q J M W l
  have sg := zWy_sign m16 V (s := 2 ^ m - 1) (by omega)
  rw [← o] at sg
  rw [show (0 : Int32).toNatClampNeg = 0 from rfl]
  refine ⟨fun big => ?_, fun small => ?_⟩
  · have z0 : M 130 (2 ^ m - 1) = 0 := Classical.byContradiction (fun nz => by
      obtain ⟨-, -, b, -⟩ := u1 nz
      have := zle.mp big
      rw [show (1000000 : Int32).toInt = 1000000 from rfl] at this
      omega)
    obtain ⟨b1, -, -⟩ := u0 z0
    rw [e5] at b1
    refine ⟨fun y => ⟨fun _ => ?_, fun y => absurd rfl y⟩, fun y => ⟨fun _ => ?_, fun y => absurd rfl y⟩⟩
    · have := q2 (hv.resolve_right y)
      rw [b1] at this
      exact this
    · exact (q3 y).1 (sg.mpr (by rw [o]; exact z0))
  · have nz : ¬ M 130 (2 ^ m - 1) = 0 := fun z0 => small (by rw [(u0 z0).2.1]; exact Int32.le_refl _)
    obtain ⟨b1, -⟩ := u1 nz
    rw [e5] at b1
    refine ⟨fun y => ⟨fun y => absurd y (by decide), fun _ => ?_⟩, fun y => ⟨fun y => absurd y (by decide), fun _ => ?_⟩⟩
    · have := q2 (hv.resolve_right y)
      rw [b1] at this
      exact this
    · exact (q3 y).2 (fun y2 => nz (by rw [← o]; exact sg.mp y2))
theorem op_frame {G : Gp} {S : zSh} {I : zFI} {L : zFL} {n jn mn tl ln on : Nat} {v1 v2 v3 : Int32} (h : iAll S I n jn mn tl ln on) (hJ : I 0 16 = 0 → zJ2 S I L (zsj I jn)) (hR : I 0 16 = 0 → zRs S I L) : zOpI G mX11_frame fX11_frame lX11_frame mX12_frame fX12_frame lX12_frame [.int v1, .int v2, .int v3] S I L 2 131072 (fun S' I' L' => zPo S I L n jn mn tl ln on S' I' L') := by
  refine ZC.of' (vX11_frame_g (bc := 0) (bs := 0) h.1 (c_isFrame2 h hJ hR (fun I1 L1 c g hc e1 e2 hg A w z R => ?_) (fun I1 L1 c hc e1 no A w z R => ?_) (fun cv => ?_))) rfl (Nat.le_of_ble_eq_true rfl) rfl
  · have g8 : g < 8 := Nat.lt_of_lt_of_le hg (zfc_8 A z hc)
    have T := (A.told (L := L1) 0).1
    have cv : v1 = 0 ∨ v1 = 1 := by rw [e1]; exact nI_01 hc
    have gc : (nI g).toNatClampNeg = g := znIc (by omega)
    rw [e1, e2]
    obtain ⟨t, t1, t2, t3⟩ := zcnt_nth (p := zst (I1 (44 + 8 * c + 1))) 16 hg
    refine ⟨_, rfl, rfl, fun _ => ⟨fun y => ⟨nI_01 hc, _, rfl, ?_⟩, fun y => ⟨nI_01 hc, _, rfl, ?_⟩, fun y => ?_, fun y => ?_, fun n0 n1 n2 n3 => ⟨_, rfl, ?_⟩⟩, fun y => absurd y (by decide)⟩
    · have mem : p_X3_membersOf I1 (zgid (nI c)) (nI g) = I1 (44 + 8 * c + 3) g := by
        rw [zgid_c hc]
        exact pick_in g8 (by omega)
      have e3 := ((z.gth hc).2.2.1 t t1 t2).1
      rw [t3] at e3
      rw [mem, e3]
      refine ZC.of' (vX12_frame_0 A.1 ⟨fun q => absurd q (isIn_yes.mpr (by rw [y]; decide)), fun _ => m_hasYes A hc z hg (fun K r nr wK mK gK g4 => ⟨r, rfl, rfl, fun _ => ⟨fun n => absurd y n, fun _ => ⟨znIin (by omega) (by omega), ?_⟩⟩, fun y => absurd y nr⟩)⟩) rfl (Nat.le_of_ble_eq_true rfl) rfl
      have e4 := gK.2 t t1 t2
      rw [t3] at e4
      rw [gc, e4]
      exact ⟨rfl, zPo_scr A (Or.inl rfl) w z R wK (fun _ _ => rfl)⟩
    · have mem : p_X3_pairsOf I1 (zgid (nI c)) (nI g) = I1 (44 + 8 * c + 4) g := by
        rw [zgid_c hc]
        exact pick_in g8 (by omega)
      rw [mem]
      refine ZC.of' (vX12_frame_0 A.1 ⟨fun q => absurd q (isIn_yes.mpr (by rw [y]; decide)), fun _ => m_hasYes A hc z hg (fun K r nr wK mK gK g4 => ⟨r, rfl, rfl, fun _ => ⟨fun _ => ⟨fun n => absurd y n, fun _ => ⟨znIin (by omega) (by omega), ?_⟩⟩, fun e => absurd (e.symm.trans y) (by decide)⟩, fun y => absurd y nr⟩)⟩) rfl (Nat.le_of_ble_eq_true rfl) rfl
      have e4 := gK.2 t t1 t2
      rw [t3] at e4
      rw [gc, e4]
      refine m_pairsIn A hc z wK mK t1 t2 ⟨_, rfl, rfl, ?_⟩
      rw [t3]
      exact ⟨rfl, zPo_scr A (Or.inl rfl) w z R wK (fun _ _ => rfl)⟩
    · refine c_raise11 A hc w z R hg (fun S2 I2 L2 gs A2 w2 z2 R2 b2 f2 => ⟨44 + 8 * c, zFm_c hc, rfl, A2.1, _, rfl, ?_⟩)
      have mem : p_X3_mostOf I2 (44 + 8 * c) (nI g) = I2 (44 + 8 * c + 5) g := pick_in g8 (by omega)
      rw [mem]
      refine m_frame23 A2 hc (Or.inl y) w2 z2 R2 (by rw [f2]; exact hg) b2 (fun J M W l => ⟨fun _ => ⟨rfl, zPo_scr A2 gs w2 z2 R2 W l⟩, fun q => absurd (y.symm.trans q) (by decide)⟩)
    · refine c_raise11 A hc w z R hg (fun S2 I2 L2 gs A2 w2 z2 R2 b2 f2 => ⟨44 + 8 * c, zFm_c hc, rfl, A2.1, fun lo => ⟨_, rfl, ?_⟩, fun hi => ⟨_, rfl, ?_⟩⟩)
      · have mem : p_X3_ordersOf L2 (44 + 8 * c) (nI g) = L2 (44 + 8 * c + 6) g := by
          unfold p_X3_ordersOf
          rw [if_neg (nI_pos (by omega)), if_neg (show ¬ (8 : Int32) ≤ nI g from nI_ge (b := 8) g8 (by omega)), gc]
        rw [mem] at lo
        refine m_frame23 A2 hc (Or.inr y) w2 z2 R2 (by rw [f2]; exact hg) b2 (fun J M W l => ⟨fun q => absurd (y.symm.trans q) (by decide), fun _ => ⟨fun _ => ⟨rfl, zPo_scr A2 gs w2 z2 R2 W l⟩, fun no => absurd lo no⟩⟩)
      · have mem : p_X3_ordersOf L2 (44 + 8 * c) (nI g) = L2 (44 + 8 * c + 6) g := by
          unfold p_X3_ordersOf
          rw [if_neg (nI_pos (by omega)), if_neg (show ¬ (8 : Int32) ≤ nI g from nI_ge (b := 8) g8 (by omega)), gc]
        rw [mem] at hi
        refine m_frame23 A2 hc (Or.inr y) w2 z2 R2 (by rw [f2]; exact hg) b2 (fun J M W l => ⟨fun q => absurd (y.symm.trans q) (by decide), fun _ => ⟨fun yes => absurd yes hi, fun _ => ⟨rfl, zPo_scr A2 gs w2 z2 R2 W l⟩⟩⟩)
    · have out : p_X12_isIn v3 0 3 = 0 := (isIn_0 _ _ _).mpr (fun ⟨a, b⟩ => by
        have a := zle.mp a
        have b := zle.mp b
        rw [zeq] at n0 n1 n2 n3
        rw [show (0 : Int32).toInt = 0 from rfl] at n0 a
        rw [show (1 : Int32).toInt = 1 from rfl] at n1
        rw [show (2 : Int32).toInt = 2 from rfl] at n2
        rw [show (3 : Int32).toInt = 3 from rfl] at n3 b
        omega)
      exact ZC.of' (vX12_frame_0 A.1 ⟨fun _ => ⟨rfl, zPo_scr A (Or.inl rfl) w z R (zScrd.told I1 0) (fun _ _ => rfl)⟩, fun q => absurd out q⟩) rfl (Nat.le_of_ble_eq_true rfl) rfl
  · rw [e1]
    refine ⟨_, rfl, rfl, fun y => absurd rfl y, fun _ => ⟨_, rfl, ?_⟩⟩
    exact ZC.of' (vX12_frame_0 A.1 ⟨fun _ => ⟨rfl, zPo_scr A (Or.inl rfl) w z R (zScrd.told I1 0) (fun _ _ => rfl)⟩, fun _ => m_hasNone A hc z no (fun K r r0 wK => ⟨r, rfl, rfl, fun y => absurd r0 y, fun _ => ⟨rfl, zPo_scr A (Or.inl rfl) w z R wK (fun _ _ => rfl)⟩⟩)⟩) rfl (Nat.le_of_ble_eq_true rfl) rfl
  · refine ⟨_, rfl, rfl, fun y => absurd rfl y, fun _ => ⟨_, rfl, ?_⟩⟩
    exact ZC.of' (vX12_frame_0 h.1 ⟨fun _ => ⟨rfl, zPo_told h⟩, fun _ => m_hasNo h.1 cv ⟨_, rfl, rfl, fun y => absurd rfl y, fun _ => ⟨rfl, zPo_told h⟩⟩⟩) rfl (Nat.le_of_ble_eq_true rfl) rfl
