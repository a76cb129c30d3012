/-- a call's words: link, code, how many arguments -/
def ZSite (own : String) (idx : Nat) (y : Mi) (n : Nat) : Prop := Cond.methodLink own idx y.1 ∈ ZTbl ∧ Cond.initialized y.1.cls ∈ ZTbl ∧ Cond.code y.1 y.2.1 y.2.2.1 y.2.2.2 ∈ ZTbl ∧ (y.1.cls ≠ "java/lang/invoke/MethodHandle" ∧ y.1.cls ≠ "java/lang/invoke/VarHandle") ∧ (parseMethodDescriptor y.1.desc).map (fun d => d.parameters.length) = some n
def ZSiteN (own : String) (idx : Nat) (y : Mi) (n : Nat) : Prop := (∃ h : String, Cond.methodLinkNest own idx y.1 h ∈ zNest) ∧ Cond.initialized y.1.cls ∈ ZTbl ∧ Cond.code y.1 y.2.1 y.2.2.1 y.2.2.2 ∈ ZTbl ∧ (y.1.cls ≠ "java/lang/invoke/MethodHandle" ∧ y.1.cls ≠ "java/lang/invoke/VarHandle") ∧ (parseMethodDescriptor y.1.desc).map (fun d => d.parameters.length) = some n
def ZInst (y : Mi) : Prop := Cond.instanceMethod y.1 ∈ ZTbl ∧ Cond.selects y.1.cls y.1 y.1 ∈ ZTbl
theorem zPc_blind {G : Gp} {As : List Value} {S : zSh} {I : zFI} {L : zFL} : FrameBlind (zPc G As S I L) := fun a U g mk q => by
  obtain ⟨q0, hW, hE⟩ := q
  exact ⟨q0, ZWorld.moved (u := U) (U := U.calling g mk a) (Vm.Alike.refl U.vm) hW, ZExt.same (s := U) (U := U.calling g mk a) rfl hE⟩
theorem zExt_H {G : Gp} {s U : State} {H : Heap} {locs : List Loc} (hE : ZExt (gB G) (gKs G) (gVs G) s s.heap) (hS : va_S (fun q : Nat => gB G ≤ q) s.heap H locs) (hU : U.heap = H) (hW : s.WarmedH U.vm) : ZExt (gB G) (gKs G) (gVs G) U U.heap := by
  rw [hU]
  exact (hE.kept hS.2.1).warm hW
section ZCALL
variable {G : Gp} {mi : Mi} {fr lo pc : Nat} {vs st : List Value} {S : zSh} {I : zFI} {L : zFL} {bc bs : Nat} {Q : zPost}
/-- behind a call -/
theorem zr_behind {y : Mi} {bc' bs' bcr bsr : Nat} {rest : List Value} {p : Program} {l : Launch} {e : Env} {R : Room} {s : State} {m : MethodId} {args : Array Value} {below : List Frame} {meth : Method} {c : Code} {H : Heap} {locs : List Loc} {cells slots : Nat} {ls : Array Slot} {Z : State → Prop} {a : Array Value}
    (C : ZCx G mi fr lo p R s m args meth c) (hS : va_S (fun q : Nat => gB G ≤ q) s.heap H locs) (hl : lvs ls mi.2.2.1 vs) (hc : cells + bc ≤ R.cells) (hs : slots + bs ≤ R.slots) (hk : ZKr G mi p l e R s m args below meth c Q Z) (hbc : bcr + bc' ≤ bc) (hbs : bsr + bs' ≤ bs)
    (hrun : va_Run p l e R s m args below meth c H locs cells slots bc' bs' (F0 m pc ls st) rest (zQc G (fun v S' I' L' => ZW G mi fr lo (pc + 3) vs (v.toList ++ rest) S' I' L' bcr bsr Q) a) (fun q : Nat => gB G ≤ q)) : W p l e R s m args below meth c H locs cells slots Z (F0 m pc ls st) := by
  intro T hT X
  obtain ⟨v, st₀, t, T', Lc, h0, X', hL, e1, e2, hq, hgo⟩ := hrun T hT X
  obtain ⟨⟨v', S', I', L', hv', hQ, hW'⟩, hF⟩ := hq
  cases hv'
  have hvm : s.vm.Alike t.vm := by rw [← e2]; exact X'.warmed.alike
  have hW2 : ZWorld (gD G) (gA G) (gB G) S' I' L' s T'.heap := by rw [e1]; exact hW'.moved hvm.symm
  have hF : H.size ≤ T'.heap.size ∧ ∀ q : Nat, q < H.size → ¬ gB G ≤ q → T'.heap[q]? = H[q]? := by
    rw [e1, ← h0]
    exact hF
  obtain ⟨t2, a1, b1⟩ := hQ p l e R s m args below meth c T'.heap (locs ++ Lc) (cells + bc') (slots + bs') ls Z C hW2
    ⟨Nat.le_trans hS.1 hF.1, fun q h1 h2 => (hF.2 q (Nat.lt_of_lt_of_le h1 hS.1) h2).trans (hS.2.1 q h1 h2), fun q hq => by
      rcases List.mem_append.mp hq with h | h
      · exact hS.2.2 q h
      · exact hL q h⟩ hl (by omega) (by omega) hk T' rfl X'
  exact ⟨t2, hgo t2 a1, b1⟩
theorem zr_site {y : Mi} {idx n fr' lo' bc' bs' : Nat} {p : Program} {R : Room} {s : State} {m : MethodId} {args : Array Value} {meth : Method} {c : Code} (C : ZCx G mi fr lo p R s m args meth c) (hsite : ZSite mi.1.cls idx y n) (hfr : fr' + 1 ≤ fr) (hlo : 8 + (y.2.2.1 + 11) + lo' ≤ lo) :
    CallB R s args mi.1.cls idx y.1 y.2.1 y.2.2.1 y.2.2.2 (Cond.code y.1 y.2.1 y.2.2.1 y.2.2.2 :: ZTbl) ({ frames := fr', cells := bc', slots := bs', locals := lo' }) bc' bs' n := by
  obtain ⟨h1, h2, h3, h4, h5⟩ := hsite
  have hts := C.2.2.2.2.1
  have hf := C.2.2.2.2.2.2.2.1
  have hlo2 := C.2.2.2.2.2.2.2.2
  refine ⟨rfl, rfl, Nat.le_trans hfr hf, Nat.le_trans hlo hlo2, pay_in hts (zt_good h3), List.mem_cons_self, hts _ h3, hts _ h2, h4, fun sig h => ?_, hts _ h1⟩
  rw [h] at h5
  exact (Option.some.inj h5).symm
theorem zr_siteN {y : Mi} {idx n fr' lo' bc' bs' : Nat} {p : Program} {R : Room} {s : State} {m : MethodId} {args : Array Value} {meth : Method} {c : Code} (C : ZCx G mi fr lo p R s m args meth c) (hsite : ZSiteN mi.1.cls idx y n) (hfr : fr' + 1 ≤ fr) (hlo : 8 + (y.2.2.1 + 11) + lo' ≤ lo) :
    ∃ host : String, va_CN R s args mi.1.cls idx y.1 host y.2.1 y.2.2.1 y.2.2.2 (Cond.code y.1 y.2.1 y.2.2.1 y.2.2.2 :: ZTbl) ({ frames := fr', cells := bc', slots := bs', locals := lo' }) bc' bs' n := by
  obtain ⟨⟨host, h1⟩, h2, h3, h4, h5⟩ := hsite
  have hts := C.2.2.2.2.1
  have hf := C.2.2.2.2.2.2.2.1
  have hlo2 := C.2.2.2.2.2.2.2.2
  refine ⟨host, ⟨rfl, rfl, Nat.le_trans hfr hf, Nat.le_trans hlo hlo2, pay_in hts (zt_good h3), List.mem_cons_self⟩, hts _ h3, hts _ h2, h4, fun sig h => ?_, va_Nw.use rfl (C.2.2.2.2.2.2.1.1 _ h1)⟩
  rw [h] at h5
  exact (Option.some.inj h5).symm
theorem zr_callV {y : Mi} {fr' lo' bc' bs' bcr bsr idx n o ci : Nat} {T : u_T} {N : Nat} {As rest : List Value} (hd : decode mi.2.1 pc = .ok (.invokevirtual idx, 3)) (hsite : ZSite mi.1.cls idx y n) (hi : ZInst y) (hcl : ZCl ci y.1.cls T N) (ho : zHas S o (0, ci)) (hn : As.length = n) (hst : st = As.reverse ++ zo G o :: rest) (hw : (rest.map fun v => v.category).sum ≤ 8)
    (hfr : fr' + 1 ≤ fr) (hlo : 8 + (y.2.2.1 + 11) + lo' ≤ lo) (hbc : bcr + bc' ≤ bc) (hbs : bsr + bs' ≤ bs)
    (kk : ZC G y fr' lo' (zo G o :: As) S I L bc' bs' (fun v S' I' L' => ZW G mi fr lo (pc + 3) vs (v.toList ++ rest) S' I' L' bcr bsr Q)) : ZW G mi fr lo pc vs st S I L bc bs Q := by
  intro p l e R s m args below meth c H locs cells slots ls Z C hW hS hl hc hs hk
  have hts := C.2.2.2.2.1
  have hE := C.2.2.2.2.2.2.1
  have he : (zwld (gA G) (gB G) S I L)[zpm o]? = some (gB G + zpm o, .inr (ci, (List.range (zNf ci)).map (fun k => zfv (gB G) (I o) (L o) (zR S o) ci k))) := by
    rw [zw_at ho.1, ho.2]
    rfl
  exact zr_behind (y := y) C hS hl hc hs hk hbc hbs (va_runV (As := As) (rest := rest) (g := F0 m pc ls st) ⟨C.1, C.2.1, C.2.2.1, C.2.2.2.1, hts⟩ (kk l) ⟨zr_site C hsite hfr hlo, hts _ hi.1, hts _ hi.2⟩
    ⟨zPc_blind, va_recv hW.2.2.1 hW.2.1 (ci := ci) (q0 := zpm o) hcl.1 he, fun U hU hWm => ⟨rfl, by rw [hU]; exact hW.moved hWm.alike, zExt_H hE hS hU hWm⟩⟩ rfl hn hl.1 hst (lv_room hw) hd ⟨by omega, by omega⟩)
theorem zr_callS {y : Mi} {fr' lo' bc' bs' bcr bsr idx n : Nat} {As rest : List Value} (hd : decode mi.2.1 pc = .ok (.invokestatic idx, 3)) (hsite : ZSite mi.1.cls idx y n) (hi : Cond.static y.1 ∈ ZTbl) (hn : As.length = n) (hst : st = As.reverse ++ rest) (hw : (rest.map fun v => v.category).sum ≤ 8)
    (hfr : fr' + 1 ≤ fr) (hlo : 8 + (y.2.2.1 + 11) + lo' ≤ lo) (hbc : bcr + bc' ≤ bc) (hbs : bsr + bs' ≤ bs)
    (kk : ZC G y fr' lo' As S I L bc' bs' (fun v S' I' L' => ZW G mi fr lo (pc + 3) vs (v.toList ++ rest) S' I' L' bcr bsr Q)) : ZW G mi fr lo pc vs st S I L bc bs Q := by
  intro p l e R s m args below meth c H locs cells slots ls Z C hW hS hl hc hs hk
  have hts := C.2.2.2.2.1
  have hE := C.2.2.2.2.2.2.1
  exact zr_behind (y := y) C hS hl hc hs hk hbc hbs (va_runS (As := As) (rest := rest) (g := F0 m pc ls st) ⟨C.1, C.2.1, C.2.2.1, C.2.2.2.1, hts⟩ (kk l) ⟨zr_site C hsite hfr hlo, hts _ hi⟩
    ⟨zPc_blind, fun U hU hWm => ⟨rfl, by rw [hU]; exact hW.moved hWm.alike, zExt_H hE hS hU hWm⟩⟩ rfl hn hl.1 hst (lv_room hw) hd ⟨by omega, by omega⟩)
theorem zr_callSN {y : Mi} {fr' lo' bc' bs' bcr bsr idx n : Nat} {As rest : List Value} (hd : decode mi.2.1 pc = .ok (.invokestatic idx, 3)) (hsite : ZSiteN mi.1.cls idx y n) (hi : Cond.static y.1 ∈ ZTbl) (hn : As.length = n) (hst : st = As.reverse ++ rest) (hw : (rest.map fun v => v.category).sum ≤ 8)
    (hfr : fr' + 1 ≤ fr) (hlo : 8 + (y.2.2.1 + 11) + lo' ≤ lo) (hbc : bcr + bc' ≤ bc) (hbs : bsr + bs' ≤ bs)
    (kk : ZC G y fr' lo' As S I L bc' bs' (fun v S' I' L' => ZW G mi fr lo (pc + 3) vs (v.toList ++ rest) S' I' L' bcr bsr Q)) : ZW G mi fr lo pc vs st S I L bc bs Q := by
  intro p l e R s m args below meth c H locs cells slots ls Z C hW hS hl hc hs hk
  have hts := C.2.2.2.2.1
  have hE := C.2.2.2.2.2.2.1
  obtain ⟨host, hcn⟩ := zr_siteN (bc' := bc') (bs' := bs') C hsite hfr hlo
  exact zr_behind (y := y) C hS hl hc hs hk hbc hbs (va_runSN (As := As) (rest := rest) (g := F0 m pc ls st) ⟨C.1, C.2.1, C.2.2.1, C.2.2.2.1, hts⟩ (kk l) ⟨hcn, hts _ hi, trivial⟩
    ⟨zPc_blind, fun U hU hWm => ⟨rfl, by rw [hU]; exact hW.moved hWm.alike, zExt_H hE hS hU hWm⟩⟩ rfl hn hl.1 hst (lv_room hw) hd ⟨by omega, by omega⟩)
theorem zr_callI {y : Mi} {fr' lo' bc' bs' bcr bsr idx n o : Nat} {As rest : List Value} (hd : decode mi.2.1 pc = .ok (.invokespecial idx, 3)) (hsite : ZSite mi.1.cls idx y n) (hy : y.1.name = "<init>" ∧ y.2.2.2 = none) (hi : Cond.instanceMethod y.1 ∈ ZTbl) (hn : As.length = n) (hst : st = As.reverse ++ zo G o :: rest) (hw : (rest.map fun v => v.category).sum ≤ 8)
    (hfr : fr' + 1 ≤ fr) (hlo : 8 + (y.2.2.1 + 11) + lo' ≤ lo) (hbc : bcr + bc' ≤ bc) (hbs : bsr + bs' ≤ bs)
    (kk : ZC G y fr' lo' (zo G o :: As) S I L bc' bs' (fun v S' I' L' => ZW G mi fr lo (pc + 3) vs (v.toList ++ rest) S' I' L' bcr bsr Q)) : ZW G mi fr lo pc vs st S I L bc bs Q := by
  intro p l e R s m args below meth c H locs cells slots ls Z C hW hS hl hc hs hk
  have hts := C.2.2.2.2.1
  have hE := C.2.2.2.2.2.2.1
  obtain ⟨y1, y2, y3, y4⟩ := y
  obtain ⟨hy1, hy2⟩ := hy
  dsimp only at hy1 hy2
  subst hy2
  exact zr_behind (y := (y1, y2, y3, none)) C hS hl hc hs hk hbc hbs (va_runI (As := As) (rest := rest) (g := F0 m pc ls st) ⟨C.1, C.2.1, C.2.2.1, C.2.2.2.1, hts⟩ (kk l) ⟨zr_site (y := (y1, y2, y3, none)) C hsite hfr hlo, hy1, hts _ hi⟩
    ⟨zPc_blind, fun U hU hWm => ⟨rfl, by rw [hU]; exact hW.moved hWm.alike, zExt_H hE hS hU hWm⟩⟩ rfl hn hl.1 hst (lv_room hw) hd ⟨by omega, by omega⟩)
theorem zr_callIN {y : Mi} {fr' lo' bc' bs' bcr bsr idx n o : Nat} {As rest : List Value} (hd : decode mi.2.1 pc = .ok (.invokespecial idx, 3)) (hsite : ZSiteN mi.1.cls idx y n) (hy : y.1.name = "<init>" ∧ y.2.2.2 = none) (hi : Cond.instanceMethod y.1 ∈ ZTbl) (hn : As.length = n) (hst : st = As.reverse ++ zo G o :: rest) (hw : (rest.map fun v => v.category).sum ≤ 8)
    (hfr : fr' + 1 ≤ fr) (hlo : 8 + (y.2.2.1 + 11) + lo' ≤ lo) (hbc : bcr + bc' ≤ bc) (hbs : bsr + bs' ≤ bs)
    (kk : ZC G y fr' lo' (zo G o :: As) S I L bc' bs' (fun v S' I' L' => ZW G mi fr lo (pc + 3) vs (v.toList ++ rest) S' I' L' bcr bsr Q)) : ZW G mi fr lo pc vs st S I L bc bs Q := by
  intro p l e R s m args below meth c H locs cells slots ls Z C hW hS hl hc hs hk
  have hts := C.2.2.2.2.1
  have hE := C.2.2.2.2.2.2.1
  obtain ⟨host, hcn⟩ := zr_siteN (bc' := bc') (bs' := bs') C hsite hfr hlo
  obtain ⟨y1, y2, y3, y4⟩ := y
  obtain ⟨hy1, hy2⟩ := hy
  dsimp only at hy1 hy2
  subst hy2
  exact zr_behind (y := (y1, y2, y3, none)) C hS hl hc hs hk hbc hbs (va_runIN (As := As) (rest := rest) (g := F0 m pc ls st) ⟨C.1, C.2.1, C.2.2.1, C.2.2.2.1, hts⟩ (kk l) ⟨hcn, hy1, hts _ hi⟩
    ⟨zPc_blind, fun U hU hWm => ⟨rfl, by rw [hU]; exact hW.moved hWm.alike, zExt_H hE hS hU hWm⟩⟩ rfl hn hl.1 hst (lv_room hw) hd ⟨by omega, by omega⟩)
/-- the super call of a constructor -/
theorem zr_objInit {idx a : Nat} (hd : decode mi.2.1 pc = .ok (.invokespecial idx, 3)) (hlink : Cond.methodLink mi.1.cls idx Lib.objectInit ∈ ZTbl) (hinst : Cond.instanceMethod Lib.objectInit ∈ ZTbl) (hcode : Cond.code Lib.objectInit ⟨#[0xb1]⟩ 1 none ∈ ZTbl) (hw : (st.map fun v => v.category).sum ≤ 8) (hfr : 1 ≤ fr) (hlo : 20 ≤ lo)
    (kk : ZW G mi fr lo (pc + 3) vs st S I L bc bs Q) : ZW G mi fr lo pc vs (zo G a :: st) S I L bc bs Q := by
  intro p l e R s m args below meth c H locs cells slots ls Z C hW hS hl hc hs hk
  have hts := C.2.2.2.2.1
  have hf := C.2.2.2.2.2.2.2.1
  have hlo2 := C.2.2.2.2.2.2.2.2
  refine W.objInit C.1 C.2.1 C.2.2.2.1 (hts _ hlink) (hts _ hinst) (hts _ hcode) (g := F0 m pc ls (zo G a :: st)) rfl (hl.1.trans C.2.2.1.symm) rfl hd (Nat.le_trans hfr hf) ?_ (kk p l e R s m args below meth c H locs cells slots ls Z C hW hS hl hc hs hk)
  have := lv_room (m := m) (pc := pc) (ls := ls) (rest := zo G a :: st) hw
  omega
end ZCALL
