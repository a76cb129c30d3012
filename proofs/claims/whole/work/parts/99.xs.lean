/-! the law's own walk: what a call leaves of the cells' sizes -/
def zSm (H H' : Heap) : Prop := ∀ (a : Nat) (c : Cell), H[a]? = some c → ∃ c' : Cell, H'[a]? = some c' ∧ c'.slots.size = c.slots.size ∧ c'.cls = c.cls ∧ c'.vm = c.vm
theorem ZC.sz {G : Gp} {mi : Mi} {fr lo : Nat} {As : List Value} {S : zSh} {I : zFI} {L : zFL} {bc bs : Nat} {Q : zPost} (h : ZC G mi fr lo As S I L bc bs Q) (l : Launch) : Met l mi.1 (Cond.code mi.1 mi.2.1 mi.2.2.1 mi.2.2.2 :: ZTbl) ({ frames := fr, cells := bc, slots := bs, locals := lo }) (zPc G As S I L) (fun a st oc t => zQc G Q a st oc t ∧ zSm st.heap t.heap) bc bs (fun q : Nat => gB G ≤ q) := by
  intro p e ha hc hk s m args below hf happ hP hK
  obtain ⟨k, o, h1, h2, h3, ⟨q, L0, fe, r⟩⟩ := h l p e ha hc hk s m args below hf happ hP hK
  refine ⟨k, o, h1, h2, h3, ⟨⟨q, fun a c hc => ?_⟩, L0, fe, r⟩⟩
  obtain ⟨c', e1, e2, e3, -⟩ := fe.2.2.2.2.2.2.2 a c hc
  exact ⟨c', e1, e3, by rw [e2], by rw [e2]⟩
/-- the slots of all cells from B on -/
def zTot (B : Nat) (H : Heap) : Nat := ((H.toList.drop B).map (fun c : Cell => c.slots.size)).sum
theorem zSm_map {H H' : Heap} (h : zSm H H') : ∀ i, i < H.size → (H'.toList.map (fun c : Cell => c.slots.size))[i]? = (H.toList.map (fun c : Cell => c.slots.size))[i]? := by
  intro i hi
  obtain ⟨c', e1, e2, -⟩ := h i H[i] (Array.getElem?_eq_getElem hi)
  rw [List.getElem?_map, List.getElem?_map, Array.getElem?_toList, Array.getElem?_toList, e1, Array.getElem?_eq_getElem hi]
  show some c'.slots.size = some H[i].slots.size
  rw [e2]
theorem zTot_same {B : Nat} {H H' : Heap} (h : zSm H H') (hs : H'.size = H.size) : zTot B H' = zTot B H := by
  unfold zTot
  rw [List.map_drop, List.map_drop]
  have : H'.toList.map (fun c : Cell => c.slots.size) = H.toList.map (fun c : Cell => c.slots.size) := by
    apply List.ext_getElem?
    intro i
    by_cases hi : i < H.size
    · exact zSm_map h i hi
    · rw [List.getElem?_eq_none (by simp; omega), List.getElem?_eq_none (by simp; omega)]
  rw [this]
theorem zTot_two {B n : Nat} {H H' : Heap} {c1 c2 : Cell} (h : zSm H H') (hs : H'.size = H.size + 2) (hB : B ≤ H.size) (e1 : H'[H.size]? = some c1) (e2 : H'[H.size + 1]? = some c2) (n1 : c1.slots.size = n) (n2 : c2.slots.size = n) : zTot B H' = zTot B H + 2 * n := by
  unfold zTot
  rw [List.map_drop, List.map_drop]
  have : H'.toList.map (fun c : Cell => c.slots.size) = H.toList.map (fun c : Cell => c.slots.size) ++ [n, n] := by
    apply List.ext_getElem?
    intro i
    by_cases hi : i < H.size
    · rw [zSm_map h i hi, List.getElem?_append_left (by simpa using hi)]
    · rw [List.getElem?_append_right (by simp; omega)]
      have el : (H.toList.map (fun c : Cell => c.slots.size)).length = H.size := by simp
      rw [el]
      by_cases h0 : i = H.size
      · rw [h0, List.getElem?_map, Array.getElem?_toList, e1, Nat.sub_self]
        show some c1.slots.size = some n
        rw [n1]
      · by_cases h1 : i = H.size + 1
        · rw [h1, List.getElem?_map, Array.getElem?_toList, e2, Nat.add_sub_cancel_left]
          show some c2.slots.size = some n
          rw [n2]
        · rw [List.getElem?_eq_none (by simp; omega), List.getElem?_eq_none (by simp; omega)]
  rw [this, List.drop_append_of_le_length (by simpa using hB), List.sum_append]
  simp
  omega
/-- how the shape may grow in one call -/
def zGrw (S S' : zSh) (σ σ' : Nat) : Prop := (zN S' = zN S ∧ σ' = σ) ∨ ∃ n, 140 ≤ zN S ∧ S' = zgw S n ∧ σ' = σ + 2 * n
def zLaw (nm : String) : Mi := (⟨RL, nm, "([I)Z"⟩, cL_law, 4, ret)
def ZL (G : Gp) (p : Program) (l : Launch) (e : Env) (R : Room) (s : State) (m : MethodId) (args : Array Value) (below : List Frame) (meth : Method) (c : Code) (Z : State → Prop) (pc : Nat) (vs st : List Value) (S : zSh) (I : zFI) (L : zFL) (ck cn : Nat) (P : Heap → Prop) : Prop :=
  ∀ (H : Heap) (locs : List Loc) (ls : Array Slot), ZWorld (gD G) (gA G) (gB G) S I L s H → va_S (fun q : Nat => gB G ≤ q) s.heap H locs → lvs ls 4 vs → P H → W p l e R s m args below meth c H locs ck cn Z (F0 m pc ls st)
section ZLW
variable {G : Gp} {fr lo : Nat} {p : Program} {l : Launch} {e : Env} {R : Room} {s : State} {m : MethodId} {args : Array Value} {below : List Frame} {meth : Method} {c : Code} {Z : State → Prop} {pc : Nat} {vs st : List Value} {S : zSh} {I : zFI} {L : zFL} {ck cn : Nat} {P : Heap → Prop}
theorem zl_iconst {n : Int} {v : Int32} (C : ZCx G (zLaw meth.name) fr lo p R s m args meth c) (hd : decode cL_law pc = .ok (.iconst n, 1)) (hv : Int32.ofInt n = v) (k : ZL G p l e R s m args below meth c Z (pc + 1) vs (.int v :: st) S I L ck cn P) : ZL G p l e R s m args below meth c Z pc vs st S I L ck cn P :=
  fun H locs ls hW hS hl hz => lv_iconst C.1 C.2.1 hd hv (k H locs ls hW hS hl hz)
theorem zl_bipush {n : Int} {v : Int32} (C : ZCx G (zLaw meth.name) fr lo p R s m args meth c) (hd : decode cL_law pc = .ok (.bipush n, 2)) (hv : (Int8.ofInt n).toInt32 = v) (k : ZL G p l e R s m args below meth c Z (pc + 2) vs (.int v :: st) S I L ck cn P) : ZL G p l e R s m args below meth c Z pc vs st S I L ck cn P :=
  fun H locs ls hW hS hl hz => lv_bipush C.1 C.2.1 hd hv (k H locs ls hW hS hl hz)
theorem zl_iload_n {kk : Fin 4} {i : Nat} {x : Int32} (C : ZCx G (zLaw meth.name) fr lo p R s m args meth c) (hd : decode cL_law pc = .ok (.iload_n kk, 1)) (hi : (kk : Nat) = i) (h : vs[i]? = some (.int x)) (k : ZL G p l e R s m args below meth c Z (pc + 1) vs (.int x :: st) S I L ck cn P) : ZL G p l e R s m args below meth c Z pc vs st S I L ck cn P :=
  fun H locs ls hW hS hl hz => lv_iload_n C.1 C.2.1 hd hi (hl.2.2 i _ h (fun q => by cases q)) (k H locs ls hW hS hl hz)
theorem zl_aload_n {kk : Fin 4} {i : Nat} {x : Nat} (C : ZCx G (zLaw meth.name) fr lo p R s m args meth c) (hd : decode cL_law pc = .ok (.aload_n kk, 1)) (hi : (kk : Nat) = i) (h : vs[i]? = some (.ref x)) (k : ZL G p l e R s m args below meth c Z (pc + 1) vs (.ref x :: st) S I L ck cn P) : ZL G p l e R s m args below meth c Z pc vs st S I L ck cn P :=
  fun H locs ls hW hS hl hz => lv_aload_n C.1 C.2.1 hd hi (hl.2.2 i _ h (fun q => by cases q)) (k H locs ls hW hS hl hz)
theorem zl_istore_n {kk : Fin 4} {i : Nat} {x : Int32} {vs' : List Value} (C : ZCx G (zLaw meth.name) fr lo p R s m args meth c) (hd : decode cL_law pc = .ok (.istore_n kk, 1)) (hi : (kk : Nat) = i) (hn : i < 4) (hv : sv1 vs i (.int x) = vs') (k : ZL G p l e R s m args below meth c Z (pc + 1) vs' st S I L ck cn P) : ZL G p l e R s m args below meth c Z pc vs (.int x :: st) S I L ck cn P :=
  fun H locs ls hW hS hl hz => lv_istore_n C.1 C.2.1 hd hi hl.has hn rfl (fun ls' h' => k H locs ls' hW hS (hv ▸ lvs_1 h') hz)
theorem zl_astore_n {kk : Fin 4} {i : Nat} {x : Nat} {vs' : List Value} (C : ZCx G (zLaw meth.name) fr lo p R s m args meth c) (hd : decode cL_law pc = .ok (.astore_n kk, 1)) (hi : (kk : Nat) = i) (hn : i < 4) (hv : sv1 vs i (.ref x) = vs') (k : ZL G p l e R s m args below meth c Z (pc + 1) vs' st S I L ck cn P) : ZL G p l e R s m args below meth c Z pc vs (.ref x :: st) S I L ck cn P :=
  fun H locs ls hW hS hl hz => lv_astore_n C.1 C.2.1 hd hi hl.has hn rfl (fun ls' h' => k H locs ls' hW hS (hv ▸ lvs_1 h') hz)
theorem zl_iinc {i : Nat} {n : Int} {x v : Int32} {vs' : List Value} (C : ZCx G (zLaw meth.name) fr lo p R s m args meth c) (hd : decode cL_law pc = .ok (.iinc i n, 3)) (h : vs[i]? = some (.int x)) (hx : x + Int32.ofInt n = v) (hn : i < 4) (hv : sv1 vs i (.int v) = vs') (k : ZL G p l e R s m args below meth c Z (pc + 3) vs' st S I L ck cn P) : ZL G p l e R s m args below meth c Z pc vs st S I L ck cn P := by
  intro H locs ls hW hS hl hz
  obtain ⟨j, hj⟩ := List.getElem?_of_mem (zToL_mem h (fun q => by cases q))
  exact lv_iinc C.1 C.2.1 hd hl.has hj hx hn rfl (fun ls' h' => k H locs ls' hW hS (hv ▸ lvs_1 h') hz)
theorem zl_iadd {x y : Int32} (C : ZCx G (zLaw meth.name) fr lo p R s m args meth c) (hd : decode cL_law pc = .ok (.iadd, 1)) (k : ZL G p l e R s m args below meth c Z (pc + 1) vs (.int (x + y) :: st) S I L ck cn P) : ZL G p l e R s m args below meth c Z pc vs (.int y :: .int x :: st) S I L ck cn P :=
  fun H locs ls hW hS hl hz => lv_iadd C.1 C.2.1 hd (k H locs ls hW hS hl hz)
theorem zl_isub {x y : Int32} (C : ZCx G (zLaw meth.name) fr lo p R s m args meth c) (hd : decode cL_law pc = .ok (.isub, 1)) (k : ZL G p l e R s m args below meth c Z (pc + 1) vs (.int (x - y) :: st) S I L ck cn P) : ZL G p l e R s m args below meth c Z pc vs (.int y :: .int x :: st) S I L ck cn P :=
  fun H locs ls hW hS hl hz => lv_isub C.1 C.2.1 hd (k H locs ls hW hS hl hz)
theorem zl_iand {x y : Int32} (C : ZCx G (zLaw meth.name) fr lo p R s m args meth c) (hd : decode cL_law pc = .ok (.iand, 1)) (k : ZL G p l e R s m args below meth c Z (pc + 1) vs (.int (x &&& y) :: st) S I L ck cn P) : ZL G p l e R s m args below meth c Z pc vs (.int y :: .int x :: st) S I L ck cn P :=
  fun H locs ls hW hS hl hz => lv_iand C.1 C.2.1 hd (k H locs ls hW hS hl hz)
theorem zl_lcmp {x y : Int64} (C : ZCx G (zLaw meth.name) fr lo p R s m args meth c) (hd : decode cL_law pc = .ok (.lcmp, 1)) (k : ZL G p l e R s m args below meth c Z (pc + 1) vs (.int (lg_cmp x y) :: st) S I L ck cn P) : ZL G p l e R s m args below meth c Z pc vs (.long y :: .long x :: st) S I L ck cn P :=
  fun H locs ls hW hS hl hz => W.lcmp C.1 C.2.1 hd (k H locs ls hW hS hl hz)
theorem zl_dup {v : Value} (C : ZCx G (zLaw meth.name) fr lo p R s m args meth c) (hd : decode cL_law pc = .ok (.dup, 1)) (h : v.category = 1) (k : ZL G p l e R s m args below meth c Z (pc + 1) vs (v :: v :: st) S I L ck cn P) : ZL G p l e R s m args below meth c Z pc vs (v :: st) S I L ck cn P :=
  fun H locs ls hW hS hl hz => lv_dup C.1 C.2.1 hd h (k H locs ls hW hS hl hz)
theorem zl_goto {off : Int} {tgt : Nat} (C : ZCx G (zLaw meth.name) fr lo p R s m args meth c) (hd : decode cL_law pc = .ok (.goto off, 3)) (ht : (pc : Int) + off = (tgt : Int)) (k : ZL G p l e R s m args below meth c Z tgt vs st S I L ck cn P) : ZL G p l e R s m args below meth c Z pc vs st S I L ck cn P :=
  fun H locs ls hW hS hl hz => lv_goto C.1 C.2.1 hd ht (k H locs ls hW hS hl hz)
theorem zl_ifeq {x : Int32} {off : Int} {tgt : Nat} (C : ZCx G (zLaw meth.name) fr lo p R s m args meth c) (hd : decode cL_law pc = .ok (.ifCond .eq off, 3)) (ht : (pc : Int) + off = (tgt : Int)) (kt : x = 0 → ZL G p l e R s m args below meth c Z tgt vs st S I L ck cn P) (kf : ¬ x = 0 → ZL G p l e R s m args below meth c Z (pc + 3) vs st S I L ck cn P) : ZL G p l e R s m args below meth c Z pc vs (.int x :: st) S I L ck cn P :=
  fun H locs ls hW hS hl hz => lv_if_eq C.1 C.2.1 hd ht (fun q => kt q H locs ls hW hS hl hz) (fun q => kf q H locs ls hW hS hl hz)
theorem zl_iceq {x y : Int32} {off : Int} {tgt : Nat} (C : ZCx G (zLaw meth.name) fr lo p R s m args meth c) (hd : decode cL_law pc = .ok (.if_icmp .eq off, 3)) (ht : (pc : Int) + off = (tgt : Int)) (kt : x = y → ZL G p l e R s m args below meth c Z tgt vs st S I L ck cn P) (kf : ¬ x = y → ZL G p l e R s m args below meth c Z (pc + 3) vs st S I L ck cn P) : ZL G p l e R s m args below meth c Z pc vs (.int y :: .int x :: st) S I L ck cn P :=
  fun H locs ls hW hS hl hz => lv_icmp_eq C.1 C.2.1 hd ht (fun q => kt q H locs ls hW hS hl hz) (fun q => kf q H locs ls hW hS hl hz)
theorem zl_icgt {x y : Int32} {off : Int} {tgt : Nat} (C : ZCx G (zLaw meth.name) fr lo p R s m args meth c) (hd : decode cL_law pc = .ok (.if_icmp .gt off, 3)) (ht : (pc : Int) + off = (tgt : Int)) (kt : y < x → ZL G p l e R s m args below meth c Z tgt vs st S I L ck cn P) (kf : ¬ y < x → ZL G p l e R s m args below meth c Z (pc + 3) vs st S I L ck cn P) : ZL G p l e R s m args below meth c Z pc vs (.int y :: .int x :: st) S I L ck cn P :=
  fun H locs ls hW hS hl hz => lv_icmp_gt C.1 C.2.1 hd ht (fun q => kt q H locs ls hW hS hl hz) (fun q => kf q H locs ls hW hS hl hz)
theorem zl_tabIn {dflt lo1 hi : Int} {offs : Array Int} {len : Nat} {x : Int32} {off : Int} {tgt : Nat} (C : ZCx G (zLaw meth.name) fr lo p R s m args meth c) (hd : decode cL_law pc = .ok (.tableswitch dflt lo1 hi offs, len)) (h1 : ¬ x.toInt < lo1) (h2 : ¬ hi < x.toInt) (ho : offs[(x.toInt - lo1).toNat]? = some off) (ht : (pc : Int) + off = (tgt : Int)) (k : ZL G p l e R s m args below meth c Z tgt vs st S I L ck cn P) : ZL G p l e R s m args below meth c Z pc vs (.int x :: st) S I L ck cn P :=
  fun H locs ls hW hS hl hz => lv_tableIn C.1 C.2.1 hd h1 h2 ho ht (k H locs ls hW hS hl hz)
theorem zl_sld {b Ln : Nat} {xs : Nat → Int32} {i : Int32} (C : ZCx G (zLaw meth.name) fr lo p R s m args meth c) (hX : va_X b Ln xs s s.heap) (hb : b < gB G) (hB : gB G = s.heap.size) (hd : decode cL_law pc = .ok (.iaload, 1)) (hin : vp_in i Ln) (k : ZL G p l e R s m args below meth c Z (pc + 1) vs (.int (xs i.toNatClampNeg) :: st) S I L ck cn P) : ZL G p l e R s m args below meth c Z pc vs (.int i :: .ref b :: st) S I L ck cn P :=
  fun H locs ls hW hS hl hz => va_sld C.1 C.2.1 hX (by omega) (show ¬ gB G ≤ b by omega) hS hin hd (k H locs ls hW hS hl hz)
theorem zl_slen {b Ln : Nat} {xs : Nat → Int32} (C : ZCx G (zLaw meth.name) fr lo p R s m args meth c) (hX : va_X b Ln xs s s.heap) (hb : b < gB G) (hB : gB G = s.heap.size) (hd : decode cL_law pc = .ok (.arraylength, 1)) (k : ZL G p l e R s m args below meth c Z (pc + 1) vs (.int (Int32.ofNat Ln) :: st) S I L ck cn P) : ZL G p l e R s m args below meth c Z pc vs (.ref b :: st) S I L ck cn P :=
  fun H locs ls hW hS hl hz => va_slen C.1 C.2.1 hX (by omega) (show ¬ gB G ≤ b by omega) hS hd (k H locs ls hW hS hl hz)
theorem zl_narrow {T : State} {locs : List Loc} {k n k' n' : Nat} (X : Stand p l e R s m args below meth c T locs k n) (h1 : T.heap.size ≤ s.heap.size + k') (h2 : zTot s.heap.size T.heap ≤ n') : Stand p l e R s m args below meth c T locs k' n' :=
  { X with same := ⟨X.same.1, X.same.2.1, h1, X.same.2.2.2.1, h2, X.same.2.2.2.2.2⟩ }
/-- the counts, set to what the heap holds -/
theorem zl_nar {ck' cn' : Nat} {P' : Heap → Prop} (hB : gB G = s.heap.size) (hn : ∀ H, ZWorld (gD G) (gA G) (gB G) S I L s H → P H → zN S ≤ ck' ∧ zTot (gB G) H ≤ cn' ∧ P' H) (k : ZL G p l e R s m args below meth c Z pc vs st S I L ck' cn' P') : ZL G p l e R s m args below meth c Z pc vs st S I L ck cn P := by
  intro H locs ls hW hS hl hz T hT X
  obtain ⟨n1, n2, n3⟩ := hn H hW hz
  exact k H locs ls hW hS hl n3 T hT (zl_narrow X (by rw [hT, hW.1, hB]; omega) (by rw [hT, ← hB]; exact n2))
/-- a receiver -/
def zRec (s : State) (cls : String) (a : Nat) (H : Heap) : Prop := ∃ cell : Cell, H[a]? = some cell ∧ cell.vm.isStatics = false ∧ s.vm.findClass cls = some cell.cls
theorem zl_callV {y : Mi} {fr' lo' bc' bs' idx n o : Nat} {As rest : List Value} (C : ZCx G (zLaw meth.name) fr lo p R s m args meth c) (hd : decode cL_law pc = .ok (.invokevirtual idx, 3)) (hsite : ZSite RL idx y n) (hi : ZInst y) (ho : ∀ H, ZWorld (gD G) (gA G) (gB G) S I L s H → P H → zRec s y.1.cls (gB G + zpm o) H) (hn : As.length = n) (hst : st = As.reverse ++ zo G o :: rest) (hw : (rest.map fun v => v.category).sum ≤ 8)
    (hfr : fr' + 1 ≤ fr) (hlo : 8 + (y.2.2.1 + 11) + lo' ≤ lo) (hbc : ck + bc' ≤ R.cells) (hbs : cn + bs' ≤ R.slots)
    (kk : ZC G y fr' lo' (zo G o :: As) S I L bc' bs' (fun v S' I' L' => ZL G p l e R s m args below meth c Z (pc + 3) vs (v.toList ++ rest) S' I' L' (ck + bc') (cn + bs') (fun H' => ∃ H : Heap, P H ∧ H.size = gB G + zN S ∧ zSm H H'))) : ZL G p l e R s m args below meth c Z pc vs st S I L ck cn P := by
  intro H locs ls hW hS hl hz
  have hts := C.2.2.2.2.1
  have hE := C.2.2.2.2.2.2.1
  have hrun := va_runV (As := As) (rest := rest) (g := F0 m pc ls st) (p := p) (l := l) (e := e) (below := below) (meth := meth) (locs := locs) (cells := ck) (slots := cn) ⟨C.1, C.2.1, C.2.2.1, C.2.2.2.1, hts⟩ (kk.sz l) ⟨zr_site (mi := zLaw meth.name) C hsite hfr hlo, hts _ hi.1, hts _ hi.2⟩
    ⟨zPc_blind, ho H hW hz, fun U hU hWm => ⟨rfl, by rw [hU]; exact hW.moved hWm.alike, zExt_H hE hS hU hWm⟩⟩ rfl hn hl.1 hst (lv_room hw) hd ⟨hbc, hbs⟩
  intro T hT X
  obtain ⟨v, st₀, t, T', Lc, h0, X', hL, e1, e2, ⟨hq, hsz⟩, hgo⟩ := hrun T hT X
  obtain ⟨⟨v', S', I', L', hv', hQ, hW'⟩, hF⟩ := hq
  cases hv'
  have hvm : s.vm.Alike t.vm := by rw [← e2]; exact X'.warmed.alike
  have hW2 : ZWorld (gD G) (gA G) (gB G) S' I' L' s T'.heap := by rw [e1]; exact hW'.moved hvm.symm
  have hF : H.size ≤ T'.heap.size ∧ ∀ q : Nat, q < H.size → ¬ gB G ≤ q → T'.heap[q]? = H[q]? := by
    rw [e1, ← h0]
    exact hF
  have hsz : zSm H T'.heap := by
    rw [e1, ← h0]
    exact hsz
  obtain ⟨t2, a1, b1⟩ := hQ T'.heap (locs ++ Lc) ls hW2
    ⟨Nat.le_trans hS.1 hF.1, fun q h1 h2 => (hF.2 q (Nat.lt_of_lt_of_le h1 hS.1) h2).trans (hS.2.1 q h1 h2), fun q hq => by
      rcases List.mem_append.mp hq with h | h
      · exact hS.2.2 q h
      · exact hL q h⟩ hl ⟨H, hz, hW.1, hsz⟩ T' rfl X'
  exact ⟨t2, hgo t2 a1, b1⟩
theorem zRec_std {o ci : Nat} {cls : String} {T : u_T} {N : Nat} {H : Heap} (hcl : ZCl ci cls T N) (ho : zHas S o (0, ci)) (hW : ZWorld (gD G) (gA G) (gB G) S I L s H) : zRec s cls (gB G + zpm o) H := by
  have he : (zwld (gA G) (gB G) S I L)[zpm o]? = some (gB G + zpm o, .inr (ci, (List.range (zNf ci)).map (fun k => zfv (gB G) (I o) (L o) (zR S o) ci k))) := by
    rw [zw_at ho.1, ho.2]
    rfl
  exact va_recv hW.2.2.1 hW.2.1 (ci := ci) (q0 := zpm o) hcl.1 he
theorem zRec_sm {cls : String} {a : Nat} {H H' : Heap} (h : zRec s cls a H) (w : zSm H H') : zRec s cls a H' := by
  obtain ⟨cell, h1, h2, h3⟩ := h
  obtain ⟨c', e1, e2, e3, e4⟩ := w a cell h1
  exact ⟨c', e1, by rw [e4]; exact h2, by rw [e3]; exact h3⟩
end ZLW
theorem zSm.trans {H1 H2 H3 : Heap} (h : zSm H1 H2) (h' : zSm H2 H3) : zSm H1 H3 := fun a c hc => by
  obtain ⟨c', e1, e2, e5, e6⟩ := h a c hc
  obtain ⟨c'', e3, e4, e7, e8⟩ := h' a c' e1
  exact ⟨c'', e3, e4.trans e2, e7.trans e5, e8.trans e6⟩
theorem zTot_grw {G : Gp} {S S' : zSh} {I' : zFI} {L' : zFL} {s : State} {H H' : Heap} {σ σ' : Nat} (hz : zTot (gB G) H ≤ σ) (hs : H.size = gB G + zN S) (hm : zSm H H') (hW : ZWorld (gD G) (gA G) (gB G) S' I' L' s H') (g : zGrw S S' σ σ') : zTot (gB G) H' ≤ σ' := by
  rcases g with ⟨a1, a2⟩ | ⟨n, a140, a1, a2⟩
  · rw [a2, zTot_same hm (by rw [hW.1, hs, a1])]
    exact hz
  · subst a1
    have hN : zN (zgw S n) = zN S + 2 := rfl
    have k1 : zHas (zgw S n) (zN S) (2, n) := ⟨by rw [hN, zpm_ge a140]; omega, by show (if zN S = zN S + 1 then (3, n) else (if zN S = zN S then (2, n) else zK S (zN S))) = (2, n); rw [if_neg (by omega), if_pos rfl]⟩
    have k2 : zHas (zgw S n) (zN S + 1) (3, n) := ⟨by rw [hN, zpm_ge (by omega)]; omega, by show (if zN S + 1 = zN S + 1 then (3, n) else (if zN S + 1 = zN S then (2, n) else zK S (zN S + 1))) = (3, n); rw [if_pos rfl]⟩
    have g1 : H'[gB G + zN S]? = some (arrV (gA G 2) n (fun j => .long (L' (zN S) j))) := by
      have := zw_cell hW k1 rfl
      rw [zpm_ge a140] at this
      exact this
    have g2 : H'[gB G + zN S + 1]? = some (arrV (gA G 3) n (fun j => .int (I' (zN S + 1) j))) := by
      have := zw_cell hW k2 rfl
      rw [zpm_ge (show 140 ≤ zN S + 1 by omega)] at this
      exact this
    rw [a2, zTot_two (n := n) hm (by rw [hW.1, hs, hN]; omega) (by rw [hs]; omega) (by rw [hs]; exact g1) (by rw [hs]; exact g2) (arrV_size _ _ _) (arrV_size _ _ _)]
    omega
