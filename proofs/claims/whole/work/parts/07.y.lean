section ZA
variable {G : Gp} {mi : Mi} {fr lo pc : Nat} {vs st : List Value} {S : zSh} {I : zFI} {L : zFL} {bc bs : Nat} {Q : zPost}
theorem zw_arr {cA : Nat → ClassId} {B a t n : Nat} {x : vp_A} (ho : zHas S a (t, n)) (hx : zce cA B (t, n) (I a) (L a) (zR S a) = .inl (cA t, x)) : (zwld cA B S I L)[zpm a]? = some (B + zpm a, .inl (cA t, x)) := by
  rw [zw_at ho.1, ho.2, hx]
theorem zw_cell {D : va_G} {cA : Nat → ClassId} {B a t n : Nat} {x : vp_A} {s : State} {H : Heap} (hW : ZWorld D cA B S I L s H) (ho : zHas S a (t, n)) (hx : zce cA B (t, n) (I a) (L a) (zR S a) = .inl (cA t, x))   : H[B + zpm a]? = some (vp_cell (cA t) x) := hW.2.1 (zpm a) _ (zw_arr ho hx)
theorem zr_alen {a t n : Nat} {v : Int32} (hd : decode mi.2.1 pc = .ok (.arraylength, 1)) (ho : zHas S a (t, n)) (ht : t = 1 ∨ t = 2 ∨ t = 3 ∨ t = 4) (hv : Int32.ofNat n = v)
    (kk : ZW G mi fr lo (pc + 1) vs (.int v :: st) S I L bc bs Q) : ZW G mi fr lo pc vs (zo G a :: st) S I L bc bs Q := by
  intro p l e R s m args below meth c H locs cells slots ls Z C hW hS hl hc hs hk
  rcases ht with rfl | rfl | rfl | rfl
  · exact va_alen C.1 C.2.1 hW.2.2.1 hW.2.1 (zpm a) 0 (zw_arr ho rfl) (show (ztys (gA G))[0]? = some (gA G 1, .int) from rfl) (by exact hv) hd (kk p l e R s m args below meth c H locs cells slots ls Z C hW hS hl hc hs hk)
  · exact va_alen C.1 C.2.1 hW.2.2.1 hW.2.1 (zpm a) 1 (zw_arr ho rfl) (show (ztys (gA G))[1]? = some (gA G 2, .long) from rfl) (by exact hv) hd (kk p l e R s m args below meth c H locs cells slots ls Z C hW hS hl hc hs hk)
  · exact va_alen C.1 C.2.1 hW.2.2.1 hW.2.1 (zpm a) 2 (zw_arr ho rfl) (show (ztys (gA G))[2]? = some (gA G 3, .byte) from rfl) (by exact hv) hd (kk p l e R s m args below meth c H locs cells slots ls Z C hW hS hl hc hs hk)
  · exact va_alen C.1 C.2.1 hW.2.2.1 hW.2.1 (zpm a) 3 (zw_arr ho rfl) (show (ztys (gA G))[3]? = some (gA G 4, .boolean) from rfl) (by exact hv) hd (kk p l e R s m args below meth c H locs cells slots ls Z C hW hS hl hc hs hk)
theorem zr_iald {a n : Nat} {i : Int32} (hd : decode mi.2.1 pc = .ok (.iaload, 1)) (ho : zHas S a (1, n)) (hin : vp_in i n)
    (kk : ZW G mi fr lo (pc + 1) vs (.int (I a i.toNatClampNeg) :: st) S I L bc bs Q) : ZW G mi fr lo pc vs (.int i :: zo G a :: st) S I L bc bs Q :=
  fun p l e R s m args below meth c H locs cells slots ls Z C hW hS hl hc hs hk => va_iald C.1 C.2.1 hW.2.2.1 hW.2.1 (zpm a) 0 (zw_arr ho rfl) (show (ztys (gA G))[0]? = some (gA G 1, .int) from rfl) hin hd (kk p l e R s m args below meth c H locs cells slots ls Z C hW hS hl hc hs hk)
theorem zr_bald {a n : Nat} {i : Int32} (hd : decode mi.2.1 pc = .ok (.baload, 1)) (ho : zHas S a (3, n)) (hin : vp_in i n)
    (kk : ZW G mi fr lo (pc + 1) vs (.int (I a i.toNatClampNeg) :: st) S I L bc bs Q) : ZW G mi fr lo pc vs (.int i :: zo G a :: st) S I L bc bs Q :=
  fun p l e R s m args below meth c H locs cells slots ls Z C hW hS hl hc hs hk => va_bald C.1 C.2.1 hW.2.2.1 hW.2.1 (zpm a) 2 (zw_arr ho rfl) (show (ztys (gA G))[2]? = some (gA G 3, .byte) from rfl) hin hd (kk p l e R s m args below meth c H locs cells slots ls Z C hW hS hl hc hs hk)
theorem zr_zald {a n : Nat} {i : Int32} (hd : decode mi.2.1 pc = .ok (.baload, 1)) (ho : zHas S a (4, n)) (hin : vp_in i n)
    (kk : ZW G mi fr lo (pc + 1) vs (.int (I a i.toNatClampNeg) :: st) S I L bc bs Q) : ZW G mi fr lo pc vs (.int i :: zo G a :: st) S I L bc bs Q :=
  fun p l e R s m args below meth c H locs cells slots ls Z C hW hS hl hc hs hk => va_zald C.1 C.2.1 hW.2.2.1 hW.2.1 (zpm a) 3 (zw_arr ho rfl) (show (ztys (gA G))[3]? = some (gA G 4, .boolean) from rfl) hin hd (kk p l e R s m args below meth c H locs cells slots ls Z C hW hS hl hc hs hk)
theorem zr_lald {a n : Nat} {i : Int32} (hd : decode mi.2.1 pc = .ok (.laload, 1)) (ho : zHas S a (2, n)) (hin : vp_in i n)
    (kk : ZW G mi fr lo (pc + 1) vs (.long (L a i.toNatClampNeg) :: st) S I L bc bs Q) : ZW G mi fr lo pc vs (.int i :: zo G a :: st) S I L bc bs Q :=
  fun p l e R s m args below meth c H locs cells slots ls Z C hW hS hl hc hs hk => va_lald C.1 C.2.1 hW.2.2.1 hW.2.1 (zpm a) 1 (zw_arr ho rfl) (show (ztys (gA G))[1]? = some (gA G 2, .long) from rfl) hin hd (kk p l e R s m args below meth c H locs cells slots ls Z C hW hS hl hc hs hk)
theorem zr_aald {a n t q : Nat} {i : Int32} (hd : decode mi.2.1 pc = .ok (.aaload, 1)) (ho : zHas S a (t, n)) (ht : t = 5 ∨ t = 6 ∨ t = 7) (hin : vp_in i n) (hq : zR S a i.toNatClampNeg = some q)
    (kk : ZW G mi fr lo (pc + 1) vs (zo G q :: st) S I L bc bs Q) : ZW G mi fr lo pc vs (.int i :: zo G a :: st) S I L bc bs Q := by
  intro p l e R s m args below meth c H locs cells slots ls Z C hW hS hl hc hs hk
  have eq9 : va_rf ((fun j => (zR S a j).map (fun a => gB G + zpm a)) i.toNatClampNeg) = zo G q := by
    show va_rf ((zR S a i.toNatClampNeg).map (fun a => gB G + zpm a)) = _
    rw [hq]
    rfl
  rcases ht with rfl | rfl | rfl
  · exact va_aldq C.1 C.2.1 hW.2.2.1 hW.2.1 (zpm a) 4 (zw_arr ho rfl) (show (ztys (gA G))[4]? = some (gA G 5, .object "FrameReader$Custom") from rfl) hin hd (by rw [eq9]; exact kk p l e R s m args below meth c H locs cells slots ls Z C hW hS hl hc hs hk)
  · exact va_aldq C.1 C.2.1 hW.2.2.1 hW.2.1 (zpm a) 5 (zw_arr ho rfl) (show (ztys (gA G))[5]? = some (gA G 6, .object "FrameReader$Join") from rfl) hin hd (by rw [eq9]; exact kk p l e R s m args below meth c H locs cells slots ls Z C hW hS hl hc hs hk)
  · exact va_aldq C.1 C.2.1 hW.2.2.1 hW.2.1 (zpm a) 6 (zw_arr ho rfl) (show (ztys (gA G))[6]? = some (gA G 7, .object "FrameReader$Frames") from rfl) hin hd (by rw [eq9]; exact kk p l e R s m args below meth c H locs cells slots ls Z C hW hS hl hc hs hk)
theorem zr_iast {a n : Nat} {i : Int32} {x : Int32} (hd : decode mi.2.1 pc = .ok (.iastore, 1)) (ho : zHas S a (1, n)) (hin : vp_in i n) 
    (kk : ZW G mi fr lo (pc + 1) vs st S (u2 I a i.toNatClampNeg x) L bc bs Q) : ZW G mi fr lo pc vs (.int x :: .int i :: zo G a :: st) S I L bc bs Q := by
  intro p l e R s m args below meth c H locs cells slots ls Z C hW hS hl hc hs hk
  refine W.iast C.1 C.2.1 (zw_cell hW ho rfl) ((hW.2.2.1.2 0 (gA G 1, .int) rfl).1 n (fun j => .int (I a j))) (fun q => by cases q) (by show ¬ (i < 0 ∨ (arrV _ _ _).slots.size ≤ _); rw [arrV_size]; exact hin) rfl rfl hd fun H1 e1 z oq => ?_
  refine kk p l e R s m args below meth c H1 _ cells slots ls Z C (hW.set ho.1 rfl (fun b hb => ⟨rfl, u2_row _ _ _ _ hb, rfl, rfl⟩) z oq ?_) (hS.put z oq (Nat.le_add_right _ _)) hl hc hs hk
  rw [ho.2]
  show H1[gB G + zpm a]? = some (vp_cell _ _)
  rw [e1]
  rw [vp_cell_i, vp_cell_i, arrV_store]
  congr 2
  funext q
  by_cases hq : q = i.toNatClampNeg
  · subst hq
    simp [updV, u2]
  · simp [updV, u2, hq]
theorem zr_bast {a n : Nat} {i : Int32} {x : Int32} (hd : decode mi.2.1 pc = .ok (.bastore, 1)) (ho : zHas S a (3, n)) (hin : vp_in i n) (hx : narrow .byte (.int x) = .int x) 
    (kk : ZW G mi fr lo (pc + 1) vs st S (u2 I a i.toNatClampNeg x) L bc bs Q) : ZW G mi fr lo pc vs (.int x :: .int i :: zo G a :: st) S I L bc bs Q := by
  intro p l e R s m args below meth c H locs cells slots ls Z C hW hS hl hc hs hk
  refine W.bast C.1 C.2.1 (zw_cell hW ho rfl) ((hW.2.2.1.2 2 (gA G 3, .byte) rfl).1 n (fun j => .int (I a j))) (fun q => by cases q) (by show ¬ (i < 0 ∨ (arrV _ _ _).slots.size ≤ _); rw [arrV_size]; exact hin) rfl rfl hd fun H1 e1 z oq => ?_
  rw [hx] at e1
  refine kk p l e R s m args below meth c H1 _ cells slots ls Z C (hW.set ho.1 rfl (fun b hb => ⟨rfl, u2_row _ _ _ _ hb, rfl, rfl⟩) z oq ?_) (hS.put z oq (Nat.le_add_right _ _)) hl hc hs hk
  rw [ho.2]
  show H1[gB G + zpm a]? = some (vp_cell _ _)
  rw [e1]
  rw [vp_cell_i, vp_cell_i, arrV_store]
  congr 2
  funext q
  by_cases hq : q = i.toNatClampNeg
  · subst hq
    simp [updV, u2]
  · simp [updV, u2, hq]
theorem zr_zast {a n : Nat} {i : Int32} {x : Int32} (hd : decode mi.2.1 pc = .ok (.bastore, 1)) (ho : zHas S a (4, n)) (hin : vp_in i n) (hx : narrow .boolean (.int x) = .int x) 
    (kk : ZW G mi fr lo (pc + 1) vs st S (u2 I a i.toNatClampNeg x) L bc bs Q) : ZW G mi fr lo pc vs (.int x :: .int i :: zo G a :: st) S I L bc bs Q := by
  intro p l e R s m args below meth c H locs cells slots ls Z C hW hS hl hc hs hk
  refine W.zast C.1 C.2.1 (zw_cell hW ho rfl) ((hW.2.2.1.2 3 (gA G 4, .boolean) rfl).1 n (fun j => .int (I a j))) (fun q => by cases q) (by show ¬ (i < 0 ∨ (arrV _ _ _).slots.size ≤ _); rw [arrV_size]; exact hin) rfl rfl hd fun H1 e1 z oq => ?_
  rw [hx] at e1
  refine kk p l e R s m args below meth c H1 _ cells slots ls Z C (hW.set ho.1 rfl (fun b hb => ⟨rfl, u2_row _ _ _ _ hb, rfl, rfl⟩) z oq ?_) (hS.put z oq (Nat.le_add_right _ _)) hl hc hs hk
  rw [ho.2]
  show H1[gB G + zpm a]? = some (vp_cell _ _)
  rw [e1]
  rw [vp_cell_i, vp_cell_i, arrV_store]
  congr 2
  funext q
  by_cases hq : q = i.toNatClampNeg
  · subst hq
    simp [updV, u2]
  · simp [updV, u2, hq]
theorem zr_last {a n : Nat} {i : Int32} {x : Int64} (hd : decode mi.2.1 pc = .ok (.lastore, 1)) (ho : zHas S a (2, n)) (hin : vp_in i n) 
    (kk : ZW G mi fr lo (pc + 1) vs st S I (u2 L a i.toNatClampNeg x) bc bs Q) : ZW G mi fr lo pc vs (.long x :: .int i :: zo G a :: st) S I L bc bs Q := by
  intro p l e R s m args below meth c H locs cells slots ls Z C hW hS hl hc hs hk
  refine W.last C.1 C.2.1 (zw_cell hW ho rfl) ((hW.2.2.1.2 1 (gA G 2, .long) rfl).1 n (fun j => .long (L a j))) (fun q => by cases q) (by show ¬ (i < 0 ∨ (arrV _ _ _).slots.size ≤ _); rw [arrV_size]; exact hin) rfl rfl hd fun H1 e1 z oq => ?_
  refine kk p l e R s m args below meth c H1 _ cells slots ls Z C (hW.set ho.1 rfl (fun b hb => ⟨rfl, rfl, u2_row _ _ _ _ hb, rfl⟩) z oq ?_) (hS.put z oq (Nat.le_add_right _ _)) hl hc hs hk
  rw [ho.2]
  show H1[gB G + zpm a]? = some (vp_cell _ _)
  rw [e1]
  rw [vp_cell_l, vp_cell_l, arrV_store]
  congr 2
  funext q
  by_cases hq : q = i.toNatClampNeg
  · subst hq
    simp [updV, u2]
  · simp [updV, u2, hq]
theorem zr_aast {a n t q ci : Nat} {i : Int32} {C0 : String} {T : u_T} {N : Nat} (hd : decode mi.2.1 pc = .ok (.aastore, 1)) (ho : zHas S a (t, n)) (ht : t = 5 ∨ t = 6 ∨ t = 7) (hcl : ZCl ci C0 T N) (hC : zAt t = .object C0) (hq : zHas S q (0, ci)) (hin : vp_in i n)
    (kk : ZW G mi fr lo (pc + 1) vs st (zN S, zK S, u2 (zR S) a i.toNatClampNeg (some q)) I L bc bs Q) : ZW G mi fr lo pc vs (zo G q :: .int i :: zo G a :: st) S I L bc bs Q := by
  intro p l e R s m args below meth c H locs cells slots ls Z C hW hS hl hc hs hk
  have hlt : i.toNatClampNeg < n := Nat.not_le.mp fun q => hin (Or.inr q)
  have h0 : ¬ i < 0 := fun q => hin (Or.inl q)
  have hv : (zwld (gA G) (gB G) S I L)[zpm q]? = some (gB G + zpm q, .inr (ci, (List.range (zNf ci)).map (fun k => zfv (gB G) (I q) (L q) (zR S q) ci k))) := by
    rw [zw_at hq.1, hq.2]
    rfl
  obtain ⟨r', hr', cellV, g1, g2, g3, -⟩ := hW.2.1 (zpm q) _ hv
  have hcls := (hW.2.2.1.1 ci _ hcl.1).2
  have hx : zce (gA G) (gB G) (t, n) (I a) (L a) (zR S a) = .inl (gA G t, (n, .inr (.inr (.inr (.inr (fun j => (zR S a j).map (fun a => gB G + zpm a))))))) := by
    rcases ht with rfl | rfl | rfl <;> rfl
  have ht9 : (ztys (gA G))[t - 1]? = some (gA G t, .object C0) := by
    rw [← hC]
    rcases ht with rfl | rfl | rfl <;> rfl
  obtain ⟨kA, comp, k1, k2, k3, -⟩ := (hW.2.2.1.2 (t - 1) _ ht9).2
  have hcomp : comp = (gD G).1 ci := Option.some.inj (k3.symm.trans hcls.1)
  subst hcomp
  obtain ⟨kC, hkC, -⟩ := hcls.2
  have hk0 := zw_cell hW ho hx
  refine W.aast C.1 C.2.1 hk0 (fun q h => by cases h) (fun h => by cases h) k1 k2 rfl hkC ⟨h0, by show _ < (arrV _ _ _).slots.size; rw [arrV_size]; exact hlt⟩ g1 (fun q h => by rw [g3] at h; cases h) (by rw [g2]; exact hkC) (by rw [g2]; exact va_assign hcls) rfl rfl hd fun H1 e1 z oq => ?_
  refine kk p l e R s m args below meth c H1 _ cells slots ls Z C (hW.set (S' := (zN S, zK S, u2 (zR S) a i.toNatClampNeg (some q))) ho.1 rfl (fun b hb => ⟨rfl, rfl, rfl, u2_row _ _ _ _ hb⟩) z oq ?_) (hS.put z oq (Nat.le_add_right _ _)) hl hc hs hk
  have hx2 : zce (gA G) (gB G) (zK S a) (I a) (L a) (u2 (zR S) a i.toNatClampNeg (some q) a) = .inl (gA G t, (n, .inr (.inr (.inr (.inr (fun j => (u2 (zR S) a i.toNatClampNeg (some q) a j).map (fun a => gB G + zpm a))))))) := by
    rw [ho.2]
    rcases ht with rfl | rfl | rfl <;> rfl
  show va_at _ _ (gB G + zpm a, zce (gA G) (gB G) (zK S a) (I a) (L a) (u2 (zR S) a i.toNatClampNeg (some q) a)) H1
  rw [hx2]
  show H1[gB G + zpm a]? = some (vp_cell _ _)
  rw [e1]
  rw [vp_cell_q, vp_cell_q, arrV_store]
  congr 2
  funext j
  by_cases hj : j = i.toNatClampNeg
  · subst hj
    simp [updV, u2, va_rf]
  · simp [updV, u2, hj]
theorem zr_newI {len : Int32} {N bc' bs' : Nat} (hd : decode mi.2.1 pc = .ok (.newarray .int, 2)) (hac : Cond.arrayClass .int ∈ ZTbl) (h0 : ¬ len < 0) (hN : len.toNatClampNeg = N) (hb : N * componentBytes .int ≤ 536870912) (hbc : bc' + 1 ≤ bc) (hbs : bs' + N ≤ bs)
    (kk : ZW G mi fr lo (pc + 2) vs (zo G (zpi (zN S)) :: st) (zN S + 1, fun a => if a = zpi (zN S) then (1, N) else zK S a, zR S) I L bc' bs' Q) : ZW G mi fr lo pc vs (.int len :: st) S I L bc bs Q := by
  intro p l e R s m args below meth c H locs cells slots ls Z C hW hS hl hc hs hk
  refine va_newaK (atype := .int) C.1 C.2.1 (C.2.2.2.2.1 _ hac) (g := F0 m pc ls (.int len :: st)) rfl hd rfl h0 hN hb (by omega) (by omega) hW.1 fun H1 cA e1 z o1 hAr hNm => ?_
  have hcA : cA = gA G 1 := Option.some.inj (hNm.symm.trans (hW.2.2.1.2 0 (gA G 1, .int) rfl).2)
  subst hcA
  rw [zo_pi] at kk
  refine kk p l e R s m args below meth c H1 locs _ _ ls Z C (hW.push (kd := (1, N)) (by rw [z, hW.1]) (fun q hq => o1 q (by rw [← hW.1]; exact hq)) ?_) ⟨Nat.le_trans hS.1 (by rw [z, hW.1]; omega), fun q h1 h2 => (o1 q (by have := hS.1; rw [hW.1] at this; omega)).trans (hS.2.1 q h1 h2), hS.2.2⟩ hl (by omega) (by omega) hk
  exact e1
theorem zr_newJ {len : Int32} {N bc' bs' : Nat} (hd : decode mi.2.1 pc = .ok (.newarray .long, 2)) (hac : Cond.arrayClass .long ∈ ZTbl) (h0 : ¬ len < 0) (hN : len.toNatClampNeg = N) (hb : N * componentBytes .long ≤ 536870912) (hbc : bc' + 1 ≤ bc) (hbs : bs' + N ≤ bs)
    (kk : ZW G mi fr lo (pc + 2) vs (zo G (zpi (zN S)) :: st) (zN S + 1, fun a => if a = zpi (zN S) then (2, N) else zK S a, zR S) I L bc' bs' Q) : ZW G mi fr lo pc vs (.int len :: st) S I L bc bs Q := by
  intro p l e R s m args below meth c H locs cells slots ls Z C hW hS hl hc hs hk
  refine va_newaK (atype := .long) C.1 C.2.1 (C.2.2.2.2.1 _ hac) (g := F0 m pc ls (.int len :: st)) rfl hd rfl h0 hN hb (by omega) (by omega) hW.1 fun H1 cA e1 z o1 hAr hNm => ?_
  have hcA : cA = gA G 2 := Option.some.inj (hNm.symm.trans (hW.2.2.1.2 1 (gA G 2, .long) rfl).2)
  subst hcA
  rw [zo_pi] at kk
  refine kk p l e R s m args below meth c H1 locs _ _ ls Z C (hW.push (kd := (2, N)) (by rw [z, hW.1]) (fun q hq => o1 q (by rw [← hW.1]; exact hq)) ?_) ⟨Nat.le_trans hS.1 (by rw [z, hW.1]; omega), fun q h1 h2 => (o1 q (by have := hS.1; rw [hW.1] at this; omega)).trans (hS.2.1 q h1 h2), hS.2.2⟩ hl (by omega) (by omega) hk
  exact e1
theorem zr_newB {len : Int32} {N bc' bs' : Nat} (hd : decode mi.2.1 pc = .ok (.newarray .byte, 2)) (hac : Cond.arrayClass .byte ∈ ZTbl) (h0 : ¬ len < 0) (hN : len.toNatClampNeg = N) (hb : N * componentBytes .byte ≤ 536870912) (hbc : bc' + 1 ≤ bc) (hbs : bs' + N ≤ bs)
    (kk : ZW G mi fr lo (pc + 2) vs (zo G (zpi (zN S)) :: st) (zN S + 1, fun a => if a = zpi (zN S) then (3, N) else zK S a, zR S) I L bc' bs' Q) : ZW G mi fr lo pc vs (.int len :: st) S I L bc bs Q := by
  intro p l e R s m args below meth c H locs cells slots ls Z C hW hS hl hc hs hk
  refine va_newaK (atype := .byte) C.1 C.2.1 (C.2.2.2.2.1 _ hac) (g := F0 m pc ls (.int len :: st)) rfl hd rfl h0 hN hb (by omega) (by omega) hW.1 fun H1 cA e1 z o1 hAr hNm => ?_
  have hcA : cA = gA G 3 := Option.some.inj (hNm.symm.trans (hW.2.2.1.2 2 (gA G 3, .byte) rfl).2)
  subst hcA
  rw [zo_pi] at kk
  refine kk p l e R s m args below meth c H1 locs _ _ ls Z C (hW.push (kd := (3, N)) (by rw [z, hW.1]) (fun q hq => o1 q (by rw [← hW.1]; exact hq)) ?_) ⟨Nat.le_trans hS.1 (by rw [z, hW.1]; omega), fun q h1 h2 => (o1 q (by have := hS.1; rw [hW.1] at this; omega)).trans (hS.2.1 q h1 h2), hS.2.2⟩ hl (by omega) (by omega) hk
  exact e1
theorem zr_newZ {len : Int32} {N bc' bs' : Nat} (hd : decode mi.2.1 pc = .ok (.newarray .boolean, 2)) (hac : Cond.arrayClass .boolean ∈ ZTbl) (h0 : ¬ len < 0) (hN : len.toNatClampNeg = N) (hb : N * componentBytes .boolean ≤ 536870912) (hbc : bc' + 1 ≤ bc) (hbs : bs' + N ≤ bs)
    (kk : ZW G mi fr lo (pc + 2) vs (zo G (zpi (zN S)) :: st) (zN S + 1, fun a => if a = zpi (zN S) then (4, N) else zK S a, zR S) I L bc' bs' Q) : ZW G mi fr lo pc vs (.int len :: st) S I L bc bs Q := by
  intro p l e R s m args below meth c H locs cells slots ls Z C hW hS hl hc hs hk
  refine va_newaK (atype := .boolean) C.1 C.2.1 (C.2.2.2.2.1 _ hac) (g := F0 m pc ls (.int len :: st)) rfl hd rfl h0 hN hb (by omega) (by omega) hW.1 fun H1 cA e1 z o1 hAr hNm => ?_
  have hcA : cA = gA G 4 := Option.some.inj (hNm.symm.trans (hW.2.2.1.2 3 (gA G 4, .boolean) rfl).2)
  subst hcA
  rw [zo_pi] at kk
  refine kk p l e R s m args below meth c H1 locs _ _ ls Z C (hW.push (kd := (4, N)) (by rw [z, hW.1]) (fun q hq => o1 q (by rw [← hW.1]; exact hq)) ?_) ⟨Nat.le_trans hS.1 (by rw [z, hW.1]; omega), fun q h1 h2 => (o1 q (by have := hS.1; rw [hW.1] at this; omega)).trans (hS.2.1 q h1 h2), hS.2.2⟩ hl (by omega) (by omega) hk
  exact e1
theorem zr_new {idx ci bc' bs' : Nat} {C0 : String} {T : u_T} {N : Nat} (hd : decode mi.2.1 pc = .ok (.new idx, 3)) (hcl : ZCl ci C0 T N) (hk0 : Cond.classLink mi.1.cls idx C0 ∈ ZTbl) (hin : Cond.instantiable C0 N ∈ ZTbl) (hini : Cond.initialized C0 ∈ ZTbl) (hz : ∀ j, j < N → defaultValue (zTy ci j) = zfv 0 (fun _ => 0) (fun _ => 0) (fun _ => none) ci j) (hbc : bc' + 1 ≤ bc) (hbs : bs' + N ≤ bs)
    (kk : ZW G mi fr lo (pc + 3) vs (zo G (zpi (zN S)) :: st) (zN S + 1, fun a => if a = zpi (zN S) then (0, ci) else zK S a, zR S) I L bc' bs' Q) : ZW G mi fr lo pc vs st S I L bc bs Q := by
  intro p l e R s m args below meth c H locs cells slots ls Z C hW hS hl hc hs hk
  have hts := C.2.2.2.2.1
  have hKn := hW.2.2.1.1 ci _ hcl.1
  refine W.newcK C.1 C.2.1 C.2.2.2.1 (hts _ hk0) (hts _ hin) (hts _ hini) (g := F0 m pc ls st) rfl hd (by omega) (by omega) hKn.2.1 hW.1 fun H1 kC hkC e1 z o1 => ?_
  rw [zo_pi] at kk
  refine kk p l e R s m args below meth c H1 locs _ _ ls Z C (hW.push (kd := (0, ci)) (by rw [z, hW.1]) (fun q hq => o1 q (by rw [← hW.1]; exact hq)) ?_) ⟨Nat.le_trans hS.1 (by rw [z, hW.1]; omega), fun q h1 h2 => (o1 q (by have := hS.1; rw [hW.1] at this; omega)).trans (hS.2.1 q h1 h2), hS.2.2⟩ hl (by omega) (by omega) hk
  refine ⟨_, hcl.1, (u_born (zTy ci) hts hcl.2.1 hKn hkC e1 hcl.2.2.1).to (fun j hj => ?_)⟩
  rw [hz j hj]
  have hj' : j < zNf ci := by rw [zNf_eq hcl]; exact hj
  unfold vp_V
  rw [List.getD_eq_getElem?_getD, List.getElem?_map, List.getElem?_range hj']
  show _ = zfv (gB G) (fun _ => 0) (fun _ => 0) (fun _ => none) ci j
  unfold zfv
  split <;> rfl
theorem zr_newA {len : Int32} {idx t N bc' bs' : Nat} {C0 : String} (hd : decode mi.2.1 pc = .ok (.anewarray idx, 3)) (ht : t = 5 ∨ t = 6 ∨ t = 7) (hC : zAt t = .object C0) (hk0 : Cond.classLink mi.1.cls idx C0 ∈ ZTbl) (h0 : ¬ len < 0) (hN : len.toNatClampNeg = N) (hb : N * 4 ≤ 536870912) (hbc : bc' + 1 ≤ bc) (hbs : bs' + N ≤ bs)
    (kk : ZW G mi fr lo (pc + 3) vs (zo G (zpi (zN S)) :: st) (zN S + 1, fun a => if a = zpi (zN S) then (t, N) else zK S a, zR S) I L bc' bs' Q) : ZW G mi fr lo pc vs (.int len :: st) S I L bc bs Q := by
  intro p l e R s m args below meth c H locs cells slots ls Z C hW hS hl hc hs hk
  subst hN
  have hao : va_AO C0 s := by
    obtain ⟨-, -, -, -, -, -, h7, h8, h9⟩ := C.2.2.2.2.2.2.1
    rcases ht with rfl | rfl | rfl
    · cases hC; exact h7
    · cases hC; exact h8
    · cases hC; exact h9
  have ht9 : (ztys (gA G))[t - 1]? = some (gA G t, .object C0) := by
    rw [← hC]
    rcases ht with rfl | rfl | rfl <;> rfl
  obtain ⟨kA, comp, k1, k2, k3, k4⟩ := (hW.2.2.1.2 (t - 1) _ ht9).2
  refine W.anew C.1 C.2.1 C.2.2.2.1 (C.2.2.2.2.1 _ hk0) (va_AO.use hao) (g := F0 m pc ls (.int len :: st)) rfl hd rfl h0 hb (by omega) (by omega) fun cA kA' comp' f1 f2 f3 f4 => ?_
  have hcA : cA = gA G t := Option.some.inj (f1.symm.trans k4)
  subst hcA
  generalize hH1 : H.push ({ cls := gA G t, slots := Array.replicate len.toNatClampNeg .null, vm := .none } : Cell) = H1
  have z1 : H1.size = H.size + 1 := by rw [← hH1, Array.size_push]
  have e1 : H1[H.size]? = some (arrV (gA G t) len.toNatClampNeg (fun _ => .null)) := by rw [← hH1, Array.getElem?_push_size, ← arrV_new]
  have o1 : ∀ q : Nat, q < H.size → H1[q]? = H[q]? := fun q hq => by rw [← hH1, Array.getElem?_push, if_neg (Nat.ne_of_lt hq)]
  have e2 : Value.ref H.size = zo G (zpi (zN S)) := by rw [hW.1, zo_pi]
  show W p l e R s m args below meth c H1 locs (cells + 1) (slots + len.toNatClampNeg) Z (F0 m (pc + 3) ls (.ref H.size :: st))
  rw [e2]
  refine kk p l e R s m args below meth c H1 locs _ _ ls Z C (hW.push (kd := (t, len.toNatClampNeg)) z1 o1 ?_) ⟨Nat.le_trans hS.1 (by omega), fun q h1 h2 => (o1 q (Nat.lt_of_lt_of_le h1 hS.1)).trans (hS.2.1 q h1 h2), hS.2.2⟩ hl (by omega) (by omega) hk
  rw [hW.1] at e1
  rcases ht with rfl | rfl | rfl <;> exact e1
end ZA
