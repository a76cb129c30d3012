/-! the law's start: two new objects -/
section ZLS
variable {G : Gp} {fr lo : Nat} {p : Program} {l : Launch} {e : Env} {R : Room} {s : State} {m : MethodId} {args : Array Value} {below : List Frame} {meth : Method} {c : Code} {Z : State → Prop} {pc : Nat} {vs st : List Value} {S : zSh} {I : zFI} {L : zFL} {ck cn : Nat} {P : Heap → Prop} {n : Nat} {ρ : List (Nat × Nat × Nat)}
theorem zl_new {idx a ci n' : Nat} {C0 : String} {T : u_T} {N : Nat} (C : ZCx G (zLaw meth.name) fr lo p R s m args meth c) (hd : decode cL_law pc = .ok (.new idx, 3)) (hcl : ZCl ci C0 T N) (hk0 : Cond.classLink RL idx C0 ∈ ZTbl) (hin : Cond.instantiable C0 N ∈ ZTbl) (hini : Cond.initialized C0 ∈ ZTbl) (hz : ∀ j, j < N → defaultValue (zTy ci j) = zfv 0 (fun _ => 0) (fun _ => 0) (fun _ => none) ci j) (ha : zpi n = a) (hk : zK0 a = (0, ci)) (hn : n + 1 = n') (hbc : ck + 1 ≤ R.cells) (hbs : cn + N ≤ R.slots)
    (kk : ZL G p l e R s m args below meth c Z (pc + 3) vs (zo G a :: st) (zcs n' ρ) I L (ck + 1) (cn + N) (fun _ => True)) : ZL G p l e R s m args below meth c Z pc vs st (zcs n ρ) I L ck cn P := by
  subst hn
  subst ha
  have kk : ZL G p l e R s m args below meth c Z (pc + 3) vs (zo G (zpi n) :: st) (n + 1, (fun a => if a = zpi n then (0, ci) else zcK n a), zer ρ) I L (ck + 1) (cn + N) (fun _ => True) := by
    rw [zcK_push hk]
    exact kk
  intro H locs ls hW hS hl hzz
  have hts := C.2.2.2.2.1
  have hKn := hW.2.2.1.1 ci _ hcl.1
  refine W.newcK C.1 C.2.1 C.2.2.2.1 (hts _ hk0) (hts _ hin) (hts _ hini) (g := F0 m pc ls st) rfl hd (by omega) (by omega) hKn.2.1 hW.1 fun H1 kC hkC e1 z o1 => ?_
  rw [zo_pi] at kk
  refine kk H1 locs ls (hW.push (kd := (0, ci)) (by rw [z, hW.1]) (fun q hq => o1 q (by rw [← hW.1]; exact hq)) ?_) ⟨Nat.le_trans hS.1 (by rw [z, hW.1]; omega), fun q h1 h2 => (o1 q (by have := hS.1; rw [hW.1] at this; omega)).trans (hS.2.1 q h1 h2), hS.2.2⟩ hl trivial
  refine ⟨_, hcl.1, (u_born (zTy ci) hts hcl.2.1 hKn hkC e1 hcl.2.2.1).to (fun j hj => ?_)⟩
  rw [hz j hj]
  have hj' : j < zNf ci := by rw [zNf_eq hcl]; exact hj
  unfold vp_V
  rw [List.getD_eq_getElem?_getD, List.getElem?_map, List.getElem?_range hj']
  show _ = zfv (gB G) (fun _ => 0) (fun _ => 0) (fun _ => none) ci j
  unfold zfv
  split <;> rfl
theorem zl_callI {y : Mi} {fr' lo' bc' bs' idx n o : Nat} {As rest : List Value} (C : ZCx G (zLaw meth.name) fr lo p R s m args meth c) (hd : decode cL_law pc = .ok (.invokespecial idx, 3)) (hsite : ZSite RL idx y n) (hy : y.1.name = "<init>" ∧ y.2.2.2 = none) (hi : Cond.instanceMethod y.1 ∈ ZTbl) (hn : As.length = n) (hst : st = As.reverse ++ zo G o :: rest) (hw : (rest.map fun v => v.category).sum ≤ 8)
    (hfr : fr' + 1 ≤ fr) (hlo : 8 + (y.2.2.1 + 11) + lo' ≤ lo) (hbc : ck + bc' ≤ R.cells) (hbs : cn + bs' ≤ R.slots)
    (kk : ZC G y fr' lo' (zo G o :: As) S I L bc' bs' (fun v S' I' L' => ZL G p l e R s m args below meth c Z (pc + 3) vs (v.toList ++ rest) S' I' L' (ck + bc') (cn + bs') (fun _ => True))) : ZL G p l e R s m args below meth c Z pc vs st S I L ck cn P := by
  intro H locs ls hW hS hl hz
  have hts := C.2.2.2.2.1
  have hE := C.2.2.2.2.2.2.1
  obtain ⟨y1, y2, y3, y4⟩ := y
  obtain ⟨hy1, hy2⟩ := hy
  dsimp only at hy1 hy2
  subst hy2
  have hrun := va_runI (As := As) (rest := rest) (g := F0 m pc ls st) (p := p) (l := l) (e := e) (below := below) (meth := meth) (locs := locs) (cells := ck) (slots := cn) ⟨C.1, C.2.1, C.2.2.1, C.2.2.2.1, hts⟩ (kk l) ⟨zr_site (mi := zLaw meth.name) (y := (y1, y2, y3, none)) C hsite hfr hlo, hy1, hts _ hi⟩
    ⟨zPc_blind, fun U hU hWm => ⟨rfl, by rw [hU]; exact hW.moved hWm.alike, zExt_H hE hS hU hWm⟩⟩ rfl hn hl.1 hst (lv_room hw) hd ⟨hbc, hbs⟩
  intro T hT X
  obtain ⟨v, st₀, t, T', Lc, h0, X', hL, e1, e2, hq, hgo⟩ := hrun T hT X
  obtain ⟨⟨v', S', I', L', hv', hQ, hW'⟩, hF⟩ := hq
  cases hv'
  have hvm : s.vm.Alike t.vm := by rw [← e2]; exact X'.warmed.alike
  have hW2 : ZWorld (gD G) (gA G) (gB G) S' I' L' s T'.heap := by rw [e1]; exact hW'.moved hvm.symm
  have hF : H.size ≤ T'.heap.size ∧ ∀ q : Nat, q < H.size → ¬ gB G ≤ q → T'.heap[q]? = H[q]? := by
    rw [e1, ← h0]
    exact hF
  obtain ⟨t2, a1, b1⟩ := hQ T'.heap (locs ++ Lc) ls hW2
    ⟨Nat.le_trans hS.1 hF.1, fun q h1 h2 => (hF.2 q (Nat.lt_of_lt_of_le h1 hS.1) h2).trans (hS.2.1 q h1 h2), fun q hq => by
      rcases List.mem_append.mp hq with h | h
      · exact hS.2.2 q h
      · exact hL q h⟩ hl trivial T' rfl X'
  exact ⟨t2, hgo t2 a1, b1⟩
/-- the machine's own count bounds what the heap holds -/
theorem zl_know (hB : gB G = s.heap.size) (k : ZL G p l e R s m args below meth c Z pc vs st S I L ck cn (fun H => zTot (gB G) H ≤ cn)) : ZL G p l e R s m args below meth c Z pc vs st S I L ck cn P := by
  intro H locs ls hW hS hl hz T hT X
  have h5 : zTot s.heap.size T.heap ≤ cn := X.same.2.2.2.2.1
  exact k H locs ls hW hS hl (by rw [hB, ← hT]; exact h5) T hT X
end ZLS
theorem law_start {G : Gp} {p : Program} {l : Launch} {e : Env} {s : State} {m : MethodId} {args : Array Value} {below : List Frame} {meth : Method} {c : Code} {Z : State → Prop} {b Ln : Nat} {xs : Nat → Int32} (C : ZCx G (zLaw meth.name) 13 510 p room_1 s m args meth c) (hX : va_X b Ln xs s s.heap) (hb : b < gB G) (hB : gB G = s.heap.size) (hLn : Ln ≤ 3072)
    (fin : ∀ (S : zSh) (I : zFI) (L : zFL) (σ : Nat) (vs : List Value), zBg S σ → ZL G p l e room_1 s m args below meth c Z 1286 vs [] S I L (zN S) σ (zP0 G s S σ)) :
    ZL G p l e room_1 s m args below meth c Z 0 [.ref b, .null, .null, .null] [] (zcs 0 evR_0) (zev evI_0) (fun _ _ => 0) 0 0 (fun _ => True) := by
  refine zl_new (n := 0) (a := 0) (n' := 1) C dL_law_0 zcl_11 zcn_L_7 zit_X11 zini_X11 (fun j hj => (show ∀ j : Fin 17, defaultValue (zTy 11 j.1) = zfv 0 (fun _ => 0) (fun _ => 0) (fun _ => none) 11 j.1 by decide +kernel) ⟨j, hj⟩) rfl rfl rfl (Nat.le_of_ble_eq_true rfl) (Nat.le_of_ble_eq_true rfl) ?_
  refine zl_dup C dL_law_3 rfl ?_
  refine zl_callI (o := 0) (As := []) (rest := [zo G 0]) (fr' := fX11_init) (lo' := lX11_init) (bc' := 84) (bs' := 9688) C dL_law_4 zs_L_9 ⟨rfl, rfl⟩ zim_X11_init rfl rfl (Nat.le_of_ble_eq_true rfl) (Nat.le_of_ble_eq_true rfl) (Nat.le_of_ble_eq_true rfl) (Nat.le_of_ble_eq_true rfl) (Nat.le_of_ble_eq_true rfl) ?_
  refine kc_19 (fun L1 => ?_)
  show ZL G p l e room_1 s m args below meth c Z 7 [.ref b, .null, .null, .null] [zo G 0] (zcs 85 evR_84) (zev evI_67) L1 85 9705 _
  refine zl_astore_n C dL_law_7 rfl (by decide) rfl ?_
  show ZL G p l e room_1 s m args below meth c Z 8 [.ref b, zo G 0, .null, .null] [] (zcs 85 evR_84) (zev evI_67) L1 85 9705 _
  refine zl_new (n := 85) (a := 84) (n' := 86) C dL_law_8 zcl_12 zcn_L_10 zit_X12 zini_X12 (fun j hj => df_12 ⟨j, hj⟩) rfl rfl rfl (Nat.le_of_ble_eq_true rfl) (Nat.le_of_ble_eq_true rfl) ?_
  refine zl_dup C dL_law_11 rfl ?_
  refine zl_callI (o := 84) (As := []) (rest := [zo G 84]) (fr' := fX12_init) (lo' := lX12_init) (bc' := 54) (bs' := 140352) C dL_law_12 zs_L_12 ⟨rfl, rfl⟩ zim_X12_init rfl rfl (Nat.le_of_ble_eq_true rfl) (Nat.le_of_ble_eq_true rfl) (Nat.le_of_ble_eq_true rfl) (Nat.le_of_ble_eq_true rfl) (Nat.le_of_ble_eq_true rfl) ?_
  refine kc_20 (fun L2 => ?_)
  show ZL G p l e room_1 s m args below meth c Z 15 [.ref b, zo G 0, .null, .null] [zo G 84] (zcs 140 evR_138) (zev evI_317) L2 140 150148 _
  refine zl_astore_n C dL_law_15 rfl (by decide) rfl ?_
  show ZL G p l e room_1 s m args below meth c Z 16 [.ref b, zo G 0, zo G 84, .null] [] (zcs 140 evR_138) (zev evI_317) L2 140 150148 _
  refine zl_iconst (v := nI 0) C dL_law_16 (by decide) ?_
  refine zl_istore_n C dL_law_17 rfl (by decide) rfl ?_
  show ZL G p l e room_1 s m args below meth c Z 18 [.ref b, zo G 0, zo G 84, .int (nI 0)] [] (zcs 140 evR_138) (zev evI_317) L2 140 150148 _
  refine zl_know hB ?_
  refine zl_nar (ck' := zN (zcs 140 evR_138)) (cn' := 150148) (P' := zP0 G s (zcs 140 evR_138) 150148) hB (fun H hW hp => ⟨Nat.le_refl _, hp, hp, zRec_std zcl_12 (i_std.has (a := 84) rfl rfl) hW, hW.1⟩) ?_
  exact law_loop C hX hb hB hLn fin 3100 0 _ _ L2 150148 (by omega) (Nat.zero_le _) (i_init L2) i_bg
