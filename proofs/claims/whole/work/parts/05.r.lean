theorem ztoL_ent {vs : List Value} : ∀ {k i : Nat} {v : Value}, (vs.flatMap (fun v => if v.category = 2 then [v, Value.null] else [v]))[i]? = some v → v ≠ .null → (k + i, v) ∈ lv_args k vs := by
  induction vs with
  | nil => intro k i v h; simp at h
  | cons w vs ih =>
    intro k i v h hv
    simp only [List.flatMap_cons] at h
    by_cases hc : w.category = 2
    · simp only [hc, if_true, lv_args] at h ⊢
      match i, h with
      | 0, h => simp at h; rw [← h]; exact List.mem_cons_self
      | 1, h => simp at h; exact absurd h.symm hv
      | i + 2, h =>
        have h2 : (vs.flatMap (fun v => if v.category = 2 then [v, Value.null] else [v]))[i]? = some v := by simpa using h
        have h3 := ih (k := k + 2) h2 hv
        rw [show k + 2 + i = k + (i + 2) by omega] at h3
        exact List.mem_cons_of_mem _ h3
    · simp only [hc, if_false, lv_args] at h ⊢
      match i, h with
      | 0, h => simp at h; rw [← h]; exact List.mem_cons_self
      | i + 1, h =>
        have h2 : (vs.flatMap (fun v => if v.category = 2 then [v, Value.null] else [v]))[i]? = some v := by simpa using h
        have h3 := ih (k := k + 1) h2 hv
        rw [show k + 1 + i = k + (i + 1) by omega] at h3
        exact List.mem_cons_of_mem _ h3
def zEnt (nL : Nat) (vs : List Value) : List Value := (fun l : List Value => l ++ List.replicate (nL - l.length) Value.null) (vs.flatMap (fun v => if v.category = 2 then [v, Value.null] else [v]))
theorem zEnt_lvs {ls : Array Slot} {nL : Nat} {vs : List Value} (h : lv_has ls nL (lv_args 0 vs)) : lvs ls nL (zEnt nL vs) := by
  refine ⟨h.1, h.2.1, fun i v hi hv => ?_⟩
  unfold zEnt at hi
  by_cases hl : i < (vs.flatMap (fun v => if v.category = 2 then [v, Value.null] else [v])).length
  · rw [List.getElem?_append_left hl] at hi
    have h3 := ztoL_ent (k := 0) hi hv
    rw [Nat.zero_add] at h3
    exact h.2.2 _ h3
  · rw [List.getElem?_append_right (by omega)] at hi
    exact absurd (List.eq_of_mem_replicate (List.mem_of_getElem? hi)) hv
section ZOF
variable {G : Gp} {mi : Mi} {fr lo pc : Nat} {vs st : List Value} {S : zSh} {I : zFI} {L : zFL} {bc bs : Nat} {Q : zPost}
set_option maxHeartbeats 4000000 in
theorem ZC.of {As : List Value} (hpl : plainName mi.1.cls = true) (hlen : (lg_sl As).length ≤ mi.2.2.1) (h : ZW G mi fr lo 0 (zEnt mi.2.2.1 As) [] S I L bc bs Q) : ZC G mi fr lo As S I L bc bs Q := by
  intro l
  refine Met.ofW (cc := mi.2.1) (maxL := mi.2.2.1) (ret := mi.2.2.2) hpl rfl ?_
  intro p e s m args below meth c s₁ B hml hv
  obtain ⟨rfl, hWd, hEx⟩ := hv
  have hts := atoms_spec (ws := Cond.code mi.1 mi.2.1 mi.2.2.1 mi.2.2.2 :: ZTbl) B.pre
  have hown : s.vm.findClass mi.1.cls = some m.cls := findClass_of_methodNamed B.named
  have hin : meth.name = mi.1.name := (name_of_methodNamed B.named B.method).1
  have hl := lv_entry As (n := mi.2.2.1) hlen
  rw [lg_entry_eq]
  generalize (lg_sl As ++ List.replicate (mi.2.2.1 - (lg_sl As).length) Slot.unset).toArray = ls at hl ⊢
  refine h p l e _ s m _ below meth c s.heap [] 0 0 ls _ ⟨B.exec, B.bytes, hml, hown, fun w hw => hts w (List.mem_cons_of_mem _ hw), hin, hEx, Nat.le_refl _, Nat.le_refl _⟩ hWd va_S.rf (zEnt_lvs hl) (by simp [headSpec]) (by simp [headSpec]) ?_
  intro H locs cells slots pc S I L v ls' hr hq hW hS hc hs
  have hlk := B.notSynchronized
  refine W.widen hc hs ?_
  have hfin : ∀ t : State, t.heap = H → s.WarmedH t.vm → ∀ v0 : Option Value, v0 = v → zQc G Q As.toArray s (.returned v0) t := fun t ht hWm v0 hv0 => by
    subst hv0
    exact ⟨⟨_, S, I, L, rfl, hq, by rw [ht]; exact hW.moved hWm.alike⟩, hS.F ht⟩
  rcases hr with ⟨x, ty, rfl, hd, hrt, hn⟩ | ⟨x, rfl, hd, hrt⟩ | ⟨rfl, hd, hrt⟩ | ⟨w, rt, rfl, hd, hrt, h1, h2⟩
  · exact W.zret B.exec B.bytes (B.returns.trans hrt) hn (fun t ht hWm => hfin t ht hWm _ rfl) hS.2.2 hd hlk
  · exact W.lret B.exec B.bytes (B.returns.trans hrt) (fun t ht hWm => hfin t ht hWm _ rfl) hS.2.2 hd hlk
  · exact W.vret B.exec B.bytes (B.returns.trans hrt) (fun t ht hWm => hfin t ht hWm _ rfl) hS.2.2 hd hlk
  · exact W.aret B.exec B.bytes (B.returns.trans hrt) h1 h2 (fun t ht hWm => hfin t ht hWm _ rfl) hS.2.2 hd hlk
theorem zr_mask {vs' : List Value} (bl : List Bool) (hv : zMask bl vs = vs') (k : ZW G mi fr lo pc vs' st S I L bc bs Q) : ZW G mi fr lo pc vs st S I L bc bs Q :=
  fun p l e R s m args below meth c H locs cells slots ls Z C hW hS hl hc hs hk => k p l e R s m args below meth c H locs cells slots ls Z C hW hS ⟨hl.1, hl.2.1, fun i v h1 h2 => hl.2.2 i v (zMask_at (by rw [hv]; exact h1) h2) h2⟩ hc hs hk
theorem zr_less {bc' bs' : Nat} (h1 : bc' ≤ bc) (h2 : bs' ≤ bs) (k : ZW G mi fr lo pc vs st S I L bc' bs' Q) : ZW G mi fr lo pc vs st S I L bc bs Q :=
  fun p l e R s m args below meth c H locs cells slots ls Z C hW hS hl hc hs hk => k p l e R s m args below meth c H locs cells slots ls Z C hW hS hl (by omega) (by omega) hk
theorem zr_post {Q' : zPost} (hq : ∀ v S I L, Q' v S I L → Q v S I L) (k : ZW G mi fr lo pc vs st S I L bc bs Q') : ZW G mi fr lo pc vs st S I L bc bs Q :=
  fun p l e R s m args below meth c H locs cells slots ls Z C hW hS hl hc hs hk => k p l e R s m args below meth c H locs cells slots ls Z C hW hS hl hc hs (fun H locs cells slots pc S I L v ls a b => hk H locs cells slots pc S I L v ls a (hq _ _ _ _ b))

theorem zr_iconst {n : Int} {v : Int32} (hd : decode mi.2.1 pc = .ok (.iconst n, 1)) (hv : Int32.ofInt n = v) (k : ZW G mi fr lo (pc + 1) vs (.int v :: st) S I L bc bs Q) : ZW G mi fr lo (pc) vs (st) S I L bc bs Q :=
  fun p l e R s m args below meth c H locs cells slots ls Z C hW hS hl hc hs hk => lv_iconst C.1 C.2.1 hd hv (k p l e R s m args below meth c H locs cells slots ls Z C hW hS hl hc hs hk)
theorem zr_bipush {n : Int} {v : Int32} (hd : decode mi.2.1 pc = .ok (.bipush n, 2)) (hv : (Int8.ofInt n).toInt32 = v) (k : ZW G mi fr lo (pc + 2) vs (.int v :: st) S I L bc bs Q) : ZW G mi fr lo (pc) vs (st) S I L bc bs Q :=
  fun p l e R s m args below meth c H locs cells slots ls Z C hW hS hl hc hs hk => lv_bipush C.1 C.2.1 hd hv (k p l e R s m args below meth c H locs cells slots ls Z C hW hS hl hc hs hk)
theorem zr_sipush {n : Int} {v : Int32} (hd : decode mi.2.1 pc = .ok (.sipush n, 3)) (hv : (Int16.ofInt n).toInt32 = v) (k : ZW G mi fr lo (pc + 3) vs (.int v :: st) S I L bc bs Q) : ZW G mi fr lo (pc) vs (st) S I L bc bs Q :=
  fun p l e R s m args below meth c H locs cells slots ls Z C hW hS hl hc hs hk => lv_sipush C.1 C.2.1 hd hv (k p l e R s m args below meth c H locs cells slots ls Z C hW hS hl hc hs hk)
theorem zr_lconst {n : Fin 2} {v : Int64} (hd : decode mi.2.1 pc = .ok (.lconst n, 1)) (hv : Int64.ofNat (n : Nat) = v) (k : ZW G mi fr lo (pc + 1) vs (.long v :: st) S I L bc bs Q) : ZW G mi fr lo (pc) vs (st) S I L bc bs Q :=
  fun p l e R s m args below meth c H locs cells slots ls Z C hW hS hl hc hs hk => lv_lconst C.1 C.2.1 hd hv (k p l e R s m args below meth c H locs cells slots ls Z C hW hS hl hc hs hk)
theorem zr_iload {i : Nat} {x : Int32} (hd : decode mi.2.1 pc = .ok (.iload i, 2)) (h : vs[i]? = some (.int x)) (k : ZW G mi fr lo (pc + 2) vs (.int x :: st) S I L bc bs Q) : ZW G mi fr lo (pc) vs (st) S I L bc bs Q :=
  fun p l e R s m args below meth c H locs cells slots ls Z C hW hS hl hc hs hk => lv_iload C.1 C.2.1 hd (hl.2.2 i _ h (fun q => by cases q)) (k p l e R s m args below meth c H locs cells slots ls Z C hW hS hl hc hs hk)
theorem zr_iload_n {kk : Fin 4} {i : Nat} {x : Int32} (hd : decode mi.2.1 pc = .ok (.iload_n kk, 1)) (hi : (kk : Nat) = i) (h : vs[i]? = some (.int x)) (k : ZW G mi fr lo (pc + 1) vs (.int x :: st) S I L bc bs Q) : ZW G mi fr lo (pc) vs (st) S I L bc bs Q :=
  fun p l e R s m args below meth c H locs cells slots ls Z C hW hS hl hc hs hk => lv_iload_n C.1 C.2.1 hd hi (hl.2.2 i _ h (fun q => by cases q)) (k p l e R s m args below meth c H locs cells slots ls Z C hW hS hl hc hs hk)
theorem zr_lload {i : Nat} {x : Int64} (hd : decode mi.2.1 pc = .ok (.lload i, 2)) (h : vs[i]? = some (.long x)) (k : ZW G mi fr lo (pc + 2) vs (.long x :: st) S I L bc bs Q) : ZW G mi fr lo (pc) vs (st) S I L bc bs Q :=
  fun p l e R s m args below meth c H locs cells slots ls Z C hW hS hl hc hs hk => lv_lload C.1 C.2.1 hd (hl.2.2 i _ h (fun q => by cases q)) (k p l e R s m args below meth c H locs cells slots ls Z C hW hS hl hc hs hk)
theorem zr_lload_n {kk : Fin 4} {i : Nat} {x : Int64} (hd : decode mi.2.1 pc = .ok (.lload_n kk, 1)) (hi : (kk : Nat) = i) (h : vs[i]? = some (.long x)) (k : ZW G mi fr lo (pc + 1) vs (.long x :: st) S I L bc bs Q) : ZW G mi fr lo (pc) vs (st) S I L bc bs Q :=
  fun p l e R s m args below meth c H locs cells slots ls Z C hW hS hl hc hs hk => lv_lload_n C.1 C.2.1 hd hi (hl.2.2 i _ h (fun q => by cases q)) (k p l e R s m args below meth c H locs cells slots ls Z C hW hS hl hc hs hk)
theorem zr_aload {i : Nat} {x : Nat} (hd : decode mi.2.1 pc = .ok (.aload i, 2)) (h : vs[i]? = some (.ref x)) (k : ZW G mi fr lo (pc + 2) vs (.ref x :: st) S I L bc bs Q) : ZW G mi fr lo (pc) vs (st) S I L bc bs Q :=
  fun p l e R s m args below meth c H locs cells slots ls Z C hW hS hl hc hs hk => lv_aload C.1 C.2.1 hd (hl.2.2 i _ h (fun q => by cases q)) (k p l e R s m args below meth c H locs cells slots ls Z C hW hS hl hc hs hk)
theorem zr_aload_n {kk : Fin 4} {i : Nat} {x : Nat} (hd : decode mi.2.1 pc = .ok (.aload_n kk, 1)) (hi : (kk : Nat) = i) (h : vs[i]? = some (.ref x)) (k : ZW G mi fr lo (pc + 1) vs (.ref x :: st) S I L bc bs Q) : ZW G mi fr lo (pc) vs (st) S I L bc bs Q :=
  fun p l e R s m args below meth c H locs cells slots ls Z C hW hS hl hc hs hk => lv_aload_n C.1 C.2.1 hd hi (hl.2.2 i _ h (fun q => by cases q)) (k p l e R s m args below meth c H locs cells slots ls Z C hW hS hl hc hs hk)
theorem zr_istore {i : Nat} {x : Int32} {vs' : List Value} (hd : decode mi.2.1 pc = .ok (.istore i, 2)) (hn : i < mi.2.2.1) (hv : sv1 vs i (.int x) = vs') (k : ZW G mi fr lo (pc + 2) vs' (st) S I L bc bs Q) : ZW G mi fr lo (pc) vs (.int x :: st) S I L bc bs Q :=
  fun p l e R s m args below meth c H locs cells slots ls Z C hW hS hl hc hs hk => lv_istore C.1 C.2.1 hd hl.has hn rfl (fun ls' h' => k p l e R s m args below meth c H locs cells slots ls' Z C hW hS (hv ▸ lvs_1 h') hc hs hk)
theorem zr_istore_n {kk : Fin 4} {i : Nat} {x : Int32} {vs' : List Value} (hd : decode mi.2.1 pc = .ok (.istore_n kk, 1)) (hi : (kk : Nat) = i) (hn : i < mi.2.2.1) (hv : sv1 vs i (.int x) = vs') (k : ZW G mi fr lo (pc + 1) vs' (st) S I L bc bs Q) : ZW G mi fr lo (pc) vs (.int x :: st) S I L bc bs Q :=
  fun p l e R s m args below meth c H locs cells slots ls Z C hW hS hl hc hs hk => lv_istore_n C.1 C.2.1 hd hi hl.has hn rfl (fun ls' h' => k p l e R s m args below meth c H locs cells slots ls' Z C hW hS (hv ▸ lvs_1 h') hc hs hk)
theorem zr_astore {i : Nat} {x : Nat} {vs' : List Value} (hd : decode mi.2.1 pc = .ok (.astore i, 2)) (hn : i < mi.2.2.1) (hv : sv1 vs i (.ref x) = vs') (k : ZW G mi fr lo (pc + 2) vs' (st) S I L bc bs Q) : ZW G mi fr lo (pc) vs (.ref x :: st) S I L bc bs Q :=
  fun p l e R s m args below meth c H locs cells slots ls Z C hW hS hl hc hs hk => lv_astore C.1 C.2.1 hd hl.has hn rfl (fun ls' h' => k p l e R s m args below meth c H locs cells slots ls' Z C hW hS (hv ▸ lvs_1 h') hc hs hk)
theorem zr_astore_n {kk : Fin 4} {i : Nat} {x : Nat} {vs' : List Value} (hd : decode mi.2.1 pc = .ok (.astore_n kk, 1)) (hi : (kk : Nat) = i) (hn : i < mi.2.2.1) (hv : sv1 vs i (.ref x) = vs') (k : ZW G mi fr lo (pc + 1) vs' (st) S I L bc bs Q) : ZW G mi fr lo (pc) vs (.ref x :: st) S I L bc bs Q :=
  fun p l e R s m args below meth c H locs cells slots ls Z C hW hS hl hc hs hk => lv_astore_n C.1 C.2.1 hd hi hl.has hn rfl (fun ls' h' => k p l e R s m args below meth c H locs cells slots ls' Z C hW hS (hv ▸ lvs_1 h') hc hs hk)
theorem zr_lstore {i : Nat} {x : Int64} {vs' : List Value} (hd : decode mi.2.1 pc = .ok (.lstore i, 2)) (hn : i + 1 < mi.2.2.1) (hv : sv2 vs i (.long x) = vs') (k : ZW G mi fr lo (pc + 2) vs' (st) S I L bc bs Q) : ZW G mi fr lo (pc) vs (.long x :: st) S I L bc bs Q :=
  fun p l e R s m args below meth c H locs cells slots ls Z C hW hS hl hc hs hk => lv_lstore C.1 C.2.1 hd hl.has hn rfl (fun ls' h' => k p l e R s m args below meth c H locs cells slots ls' Z C hW hS (hv ▸ lvs_2 h') hc hs hk)
theorem zr_lstore_n {kk : Fin 4} {i : Nat} {x : Int64} {vs' : List Value} (hd : decode mi.2.1 pc = .ok (.lstore_n kk, 1)) (hi : (kk : Nat) = i) (hn : i + 1 < mi.2.2.1) (hv : sv2 vs i (.long x) = vs') (k : ZW G mi fr lo (pc + 1) vs' (st) S I L bc bs Q) : ZW G mi fr lo (pc) vs (.long x :: st) S I L bc bs Q :=
  fun p l e R s m args below meth c H locs cells slots ls Z C hW hS hl hc hs hk => lv_lstore_n C.1 C.2.1 hd hi hl.has hn rfl (fun ls' h' => k p l e R s m args below meth c H locs cells slots ls' Z C hW hS (hv ▸ lvs_2 h') hc hs hk)
theorem zr_iinc {i : Nat} {n : Int} {x v : Int32} {vs' : List Value} (hd : decode mi.2.1 pc = .ok (.iinc i n, 3)) (h : vs[i]? = some (.int x)) (hx : x + Int32.ofInt n = v) (hn : i < mi.2.2.1) (hv : sv1 vs i (.int v) = vs') (k : ZW G mi fr lo (pc + 3) vs' (st) S I L bc bs Q) : ZW G mi fr lo (pc) vs (st) S I L bc bs Q := by
  intro p l e R s m args below meth c H locs cells slots ls Z C hW hS hl hc hs hk
  obtain ⟨j, hj⟩ := List.getElem?_of_mem (zToL_mem h (fun q => by cases q))
  exact lv_iinc C.1 C.2.1 hd hl.has hj hx hn rfl (fun ls' h' => k p l e R s m args below meth c H locs cells slots ls' Z C hW hS (hv ▸ lvs_1 h') hc hs hk)
theorem zr_iadd {x y : Int32} (hd : decode mi.2.1 pc = .ok (.iadd, 1))  (k : ZW G mi fr lo (pc + 1) vs (.int (x + y) :: st) S I L bc bs Q) : ZW G mi fr lo (pc) vs (.int y :: .int x :: st) S I L bc bs Q :=
  fun p l e R s m args below meth c H locs cells slots ls Z C hW hS hl hc hs hk => lv_iadd C.1 C.2.1 hd  (k p l e R s m args below meth c H locs cells slots ls Z C hW hS hl hc hs hk)
theorem zr_isub {x y : Int32} (hd : decode mi.2.1 pc = .ok (.isub, 1))  (k : ZW G mi fr lo (pc + 1) vs (.int (x - y) :: st) S I L bc bs Q) : ZW G mi fr lo (pc) vs (.int y :: .int x :: st) S I L bc bs Q :=
  fun p l e R s m args below meth c H locs cells slots ls Z C hW hS hl hc hs hk => lv_isub C.1 C.2.1 hd  (k p l e R s m args below meth c H locs cells slots ls Z C hW hS hl hc hs hk)
theorem zr_imul {x y : Int32} (hd : decode mi.2.1 pc = .ok (.imul, 1))  (k : ZW G mi fr lo (pc + 1) vs (.int (x * y) :: st) S I L bc bs Q) : ZW G mi fr lo (pc) vs (.int y :: .int x :: st) S I L bc bs Q :=
  fun p l e R s m args below meth c H locs cells slots ls Z C hW hS hl hc hs hk => lv_imul C.1 C.2.1 hd  (k p l e R s m args below meth c H locs cells slots ls Z C hW hS hl hc hs hk)
theorem zr_iand {x y : Int32} (hd : decode mi.2.1 pc = .ok (.iand, 1))  (k : ZW G mi fr lo (pc + 1) vs (.int (x &&& y) :: st) S I L bc bs Q) : ZW G mi fr lo (pc) vs (.int y :: .int x :: st) S I L bc bs Q :=
  fun p l e R s m args below meth c H locs cells slots ls Z C hW hS hl hc hs hk => lv_iand C.1 C.2.1 hd  (k p l e R s m args below meth c H locs cells slots ls Z C hW hS hl hc hs hk)
theorem zr_ior {x y : Int32} (hd : decode mi.2.1 pc = .ok (.ior, 1))  (k : ZW G mi fr lo (pc + 1) vs (.int (x ||| y) :: st) S I L bc bs Q) : ZW G mi fr lo (pc) vs (.int y :: .int x :: st) S I L bc bs Q :=
  fun p l e R s m args below meth c H locs cells slots ls Z C hW hS hl hc hs hk => lv_ior C.1 C.2.1 hd  (k p l e R s m args below meth c H locs cells slots ls Z C hW hS hl hc hs hk)
theorem zr_ixor {x y : Int32} (hd : decode mi.2.1 pc = .ok (.ixor, 1))  (k : ZW G mi fr lo (pc + 1) vs (.int (x ^^^ y) :: st) S I L bc bs Q) : ZW G mi fr lo (pc) vs (.int y :: .int x :: st) S I L bc bs Q :=
  fun p l e R s m args below meth c H locs cells slots ls Z C hW hS hl hc hs hk => lv_ixor C.1 C.2.1 hd  (k p l e R s m args below meth c H locs cells slots ls Z C hW hS hl hc hs hk)
theorem zr_ishl {x y : Int32} (hd : decode mi.2.1 pc = .ok (.ishl, 1))  (k : ZW G mi fr lo (pc + 1) vs (.int (x <<< (y &&& 31)) :: st) S I L bc bs Q) : ZW G mi fr lo (pc) vs (.int y :: .int x :: st) S I L bc bs Q :=
  fun p l e R s m args below meth c H locs cells slots ls Z C hW hS hl hc hs hk => lv_ishl C.1 C.2.1 hd  (k p l e R s m args below meth c H locs cells slots ls Z C hW hS hl hc hs hk)
theorem zr_ishr {x y : Int32} (hd : decode mi.2.1 pc = .ok (.ishr, 1))  (k : ZW G mi fr lo (pc + 1) vs (.int (x >>> (y &&& 31)) :: st) S I L bc bs Q) : ZW G mi fr lo (pc) vs (.int y :: .int x :: st) S I L bc bs Q :=
  fun p l e R s m args below meth c H locs cells slots ls Z C hW hS hl hc hs hk => lv_ishr C.1 C.2.1 hd  (k p l e R s m args below meth c H locs cells slots ls Z C hW hS hl hc hs hk)
theorem zr_idiv {x y : Int32} (hd : decode mi.2.1 pc = .ok (.idiv, 1)) (h : ¬ y = 0) (k : ZW G mi fr lo (pc + 1) vs (.int (x / y) :: st) S I L bc bs Q) : ZW G mi fr lo (pc) vs (.int y :: .int x :: st) S I L bc bs Q :=
  fun p l e R s m args below meth c H locs cells slots ls Z C hW hS hl hc hs hk => lv_idiv C.1 C.2.1 hd h (k p l e R s m args below meth c H locs cells slots ls Z C hW hS hl hc hs hk)
theorem zr_irem {x y : Int32} (hd : decode mi.2.1 pc = .ok (.irem, 1)) (h : ¬ y = 0) (k : ZW G mi fr lo (pc + 1) vs (.int (x - x / y * y) :: st) S I L bc bs Q) : ZW G mi fr lo (pc) vs (.int y :: .int x :: st) S I L bc bs Q :=
  fun p l e R s m args below meth c H locs cells slots ls Z C hW hS hl hc hs hk => lv_irem C.1 C.2.1 hd h (k p l e R s m args below meth c H locs cells slots ls Z C hW hS hl hc hs hk)
theorem zr_ineg {x : Int32} (hd : decode mi.2.1 pc = .ok (.ineg, 1))  (k : ZW G mi fr lo (pc + 1) vs (.int (-x) :: st) S I L bc bs Q) : ZW G mi fr lo (pc) vs (.int x :: st) S I L bc bs Q :=
  fun p l e R s m args below meth c H locs cells slots ls Z C hW hS hl hc hs hk => lv_ineg C.1 C.2.1 hd  (k p l e R s m args below meth c H locs cells slots ls Z C hW hS hl hc hs hk)
theorem zr_iushr {x y v : Int32} (hd : decode mi.2.1 pc = .ok (.iushr, 1)) (hv : (x.toUInt32 >>> (y.toUInt32 &&& Int32.toUInt32 31)).toInt32 = v) (k : ZW G mi fr lo (pc + 1) vs (.int v :: st) S I L bc bs Q) : ZW G mi fr lo (pc) vs (.int y :: .int x :: st) S I L bc bs Q :=
  fun p l e R s m args below meth c H locs cells slots ls Z C hW hS hl hc hs hk => lv_iushr C.1 C.2.1 hd hv (k p l e R s m args below meth c H locs cells slots ls Z C hW hS hl hc hs hk)
theorem zr_ladd {x y : Int64} (hd : decode mi.2.1 pc = .ok (.ladd, 1))  (k : ZW G mi fr lo (pc + 1) vs (.long (x + y) :: st) S I L bc bs Q) : ZW G mi fr lo (pc) vs (.long y :: .long x :: st) S I L bc bs Q :=
  fun p l e R s m args below meth c H locs cells slots ls Z C hW hS hl hc hs hk => lv_ladd C.1 C.2.1 hd  (k p l e R s m args below meth c H locs cells slots ls Z C hW hS hl hc hs hk)
theorem zr_lsub {x y : Int64} (hd : decode mi.2.1 pc = .ok (.lsub, 1))  (k : ZW G mi fr lo (pc + 1) vs (.long (x - y) :: st) S I L bc bs Q) : ZW G mi fr lo (pc) vs (.long y :: .long x :: st) S I L bc bs Q :=
  fun p l e R s m args below meth c H locs cells slots ls Z C hW hS hl hc hs hk => lv_lsub C.1 C.2.1 hd  (k p l e R s m args below meth c H locs cells slots ls Z C hW hS hl hc hs hk)
theorem zr_land {x y : Int64} (hd : decode mi.2.1 pc = .ok (.land, 1))  (k : ZW G mi fr lo (pc + 1) vs (.long (x &&& y) :: st) S I L bc bs Q) : ZW G mi fr lo (pc) vs (.long y :: .long x :: st) S I L bc bs Q :=
  fun p l e R s m args below meth c H locs cells slots ls Z C hW hS hl hc hs hk => lv_land C.1 C.2.1 hd  (k p l e R s m args below meth c H locs cells slots ls Z C hW hS hl hc hs hk)
theorem zr_lor {x y : Int64} (hd : decode mi.2.1 pc = .ok (.lor, 1))  (k : ZW G mi fr lo (pc + 1) vs (.long (x ||| y) :: st) S I L bc bs Q) : ZW G mi fr lo (pc) vs (.long y :: .long x :: st) S I L bc bs Q :=
  fun p l e R s m args below meth c H locs cells slots ls Z C hW hS hl hc hs hk => lv_lor C.1 C.2.1 hd  (k p l e R s m args below meth c H locs cells slots ls Z C hW hS hl hc hs hk)
theorem zr_lshl {x v : Int64} {y : Int32} (hd : decode mi.2.1 pc = .ok (.lshl, 1)) (hv : x <<< (y.toInt64 &&& 63) = v) (k : ZW G mi fr lo (pc + 1) vs (.long v :: st) S I L bc bs Q) : ZW G mi fr lo (pc) vs (.int y :: .long x :: st) S I L bc bs Q :=
  fun p l e R s m args below meth c H locs cells slots ls Z C hW hS hl hc hs hk => lv_lshl C.1 C.2.1 hd hv (k p l e R s m args below meth c H locs cells slots ls Z C hW hS hl hc hs hk)
theorem zr_lshr {x v : Int64} {y : Int32} (hd : decode mi.2.1 pc = .ok (.lshr, 1)) (hv : x >>> (y.toInt64 &&& 63) = v) (k : ZW G mi fr lo (pc + 1) vs (.long v :: st) S I L bc bs Q) : ZW G mi fr lo (pc) vs (.int y :: .long x :: st) S I L bc bs Q :=
  fun p l e R s m args below meth c H locs cells slots ls Z C hW hS hl hc hs hk => lv_lshr C.1 C.2.1 hd hv (k p l e R s m args below meth c H locs cells slots ls Z C hW hS hl hc hs hk)
theorem zr_lushr {x v : Int64} {y : Int32} (hd : decode mi.2.1 pc = .ok (.lushr, 1)) (hv : (x.toUInt64 >>> (y.toInt64.toUInt64 &&& Int64.toUInt64 63)).toInt64 = v) (k : ZW G mi fr lo (pc + 1) vs (.long v :: st) S I L bc bs Q) : ZW G mi fr lo (pc) vs (.int y :: .long x :: st) S I L bc bs Q :=
  fun p l e R s m args below meth c H locs cells slots ls Z C hW hS hl hc hs hk => lv_lushr C.1 C.2.1 hd hv (k p l e R s m args below meth c H locs cells slots ls Z C hW hS hl hc hs hk)
theorem zr_l2i {x : Int64} {v : Int32} (hd : decode mi.2.1 pc = .ok (.l2i, 1)) (hv : x.toInt32 = v) (k : ZW G mi fr lo (pc + 1) vs (.int v :: st) S I L bc bs Q) : ZW G mi fr lo (pc) vs (.long x :: st) S I L bc bs Q :=
  fun p l e R s m args below meth c H locs cells slots ls Z C hW hS hl hc hs hk => lv_l2i C.1 C.2.1 hd hv (k p l e R s m args below meth c H locs cells slots ls Z C hW hS hl hc hs hk)
theorem zr_i2l {x : Int32} {v : Int64} (hd : decode mi.2.1 pc = .ok (.i2l, 1)) (hv : x.toInt64 = v) (k : ZW G mi fr lo (pc + 1) vs (.long v :: st) S I L bc bs Q) : ZW G mi fr lo (pc) vs (.int x :: st) S I L bc bs Q :=
  fun p l e R s m args below meth c H locs cells slots ls Z C hW hS hl hc hs hk => lv_i2l C.1 C.2.1 hd hv (k p l e R s m args below meth c H locs cells slots ls Z C hW hS hl hc hs hk)
theorem zr_i2b {x v : Int32} (hd : decode mi.2.1 pc = .ok (.i2b, 1)) (hv : x.toInt8.toInt32 = v) (k : ZW G mi fr lo (pc + 1) vs (.int v :: st) S I L bc bs Q) : ZW G mi fr lo (pc) vs (.int x :: st) S I L bc bs Q :=
  fun p l e R s m args below meth c H locs cells slots ls Z C hW hS hl hc hs hk => lv_i2b C.1 C.2.1 hd hv (k p l e R s m args below meth c H locs cells slots ls Z C hW hS hl hc hs hk)
theorem zr_i2c {x v : Int32} (hd : decode mi.2.1 pc = .ok (.i2c, 1)) (hv : (x.toUInt32 % 65536).toInt32 = v) (k : ZW G mi fr lo (pc + 1) vs (.int v :: st) S I L bc bs Q) : ZW G mi fr lo (pc) vs (.int x :: st) S I L bc bs Q :=
  fun p l e R s m args below meth c H locs cells slots ls Z C hW hS hl hc hs hk => lv_i2c C.1 C.2.1 hd hv (k p l e R s m args below meth c H locs cells slots ls Z C hW hS hl hc hs hk)
theorem zr_lcmp {x y : Int64} (hd : decode mi.2.1 pc = .ok (.lcmp, 1))  (k : ZW G mi fr lo (pc + 1) vs (.int (lg_cmp x y) :: st) S I L bc bs Q) : ZW G mi fr lo (pc) vs (.long y :: .long x :: st) S I L bc bs Q :=
  fun p l e R s m args below meth c H locs cells slots ls Z C hW hS hl hc hs hk => W.lcmp C.1 C.2.1 hd  (k p l e R s m args below meth c H locs cells slots ls Z C hW hS hl hc hs hk)
theorem zr_dup {v : Value} (hd : decode mi.2.1 pc = .ok (.dup, 1)) (h : v.category = 1) (k : ZW G mi fr lo (pc + 1) vs (v :: v :: st) S I L bc bs Q) : ZW G mi fr lo (pc) vs (v :: st) S I L bc bs Q :=
  fun p l e R s m args below meth c H locs cells slots ls Z C hW hS hl hc hs hk => lv_dup C.1 C.2.1 hd h (k p l e R s m args below meth c H locs cells slots ls Z C hW hS hl hc hs hk)
theorem zr_pop {v : Value} (hd : decode mi.2.1 pc = .ok (.pop, 1)) (h : v.category = 1) (k : ZW G mi fr lo (pc + 1) vs (st) S I L bc bs Q) : ZW G mi fr lo (pc) vs (v :: st) S I L bc bs Q :=
  fun p l e R s m args below meth c H locs cells slots ls Z C hW hS hl hc hs hk => lv_pop C.1 C.2.1 hd h (k p l e R s m args below meth c H locs cells slots ls Z C hW hS hl hc hs hk)
theorem zr_dup2 {v w : Value} (hd : decode mi.2.1 pc = .ok (.dup2, 1)) (h : v.category = 1) (h2 : w.category = 1) (k : ZW G mi fr lo (pc + 1) vs (v :: w :: v :: w :: st) S I L bc bs Q) : ZW G mi fr lo (pc) vs (v :: w :: st) S I L bc bs Q :=
  fun p l e R s m args below meth c H locs cells slots ls Z C hW hS hl hc hs hk => lv_dup2_11 C.1 C.2.1 hd h h2 (k p l e R s m args below meth c H locs cells slots ls Z C hW hS hl hc hs hk)
theorem zr_goto {off : Int} {tgt : Nat} (hd : decode mi.2.1 pc = .ok (.goto off, 3)) (ht : (pc : Int) + off = (tgt : Int)) (k : ZW G mi fr lo (tgt) vs (st) S I L bc bs Q) : ZW G mi fr lo (pc) vs (st) S I L bc bs Q :=
  fun p l e R s m args below meth c H locs cells slots ls Z C hW hS hl hc hs hk => lv_goto C.1 C.2.1 hd ht (k p l e R s m args below meth c H locs cells slots ls Z C hW hS hl hc hs hk)
theorem zr_ifeq {x : Int32} {off : Int} {tgt : Nat} (hd : decode mi.2.1 pc = .ok (.ifCond .eq off, 3)) (ht : (pc : Int) + off = (tgt : Int)) (kt : x = 0 → ZW G mi fr lo (tgt) vs (st) S I L bc bs Q) (kf : ¬ x = 0 → ZW G mi fr lo (pc + 3) vs (st) S I L bc bs Q) : ZW G mi fr lo (pc) vs (.int x :: st) S I L bc bs Q :=
  fun p l e R s m args below meth c H locs cells slots ls Z C hW hS hl hc hs hk => lv_if_eq C.1 C.2.1 hd ht (fun q => kt q p l e R s m args below meth c H locs cells slots ls Z C hW hS hl hc hs hk) (fun q => kf q p l e R s m args below meth c H locs cells slots ls Z C hW hS hl hc hs hk)
theorem zr_ifne {x : Int32} {off : Int} {tgt : Nat} (hd : decode mi.2.1 pc = .ok (.ifCond .ne off, 3)) (ht : (pc : Int) + off = (tgt : Int)) (kt : ¬ x = 0 → ZW G mi fr lo (tgt) vs (st) S I L bc bs Q) (kf : x = 0 → ZW G mi fr lo (pc + 3) vs (st) S I L bc bs Q) : ZW G mi fr lo (pc) vs (.int x :: st) S I L bc bs Q :=
  fun p l e R s m args below meth c H locs cells slots ls Z C hW hS hl hc hs hk => lv_if_ne C.1 C.2.1 hd ht (fun q => kt q p l e R s m args below meth c H locs cells slots ls Z C hW hS hl hc hs hk) (fun q => kf q p l e R s m args below meth c H locs cells slots ls Z C hW hS hl hc hs hk)
theorem zr_iflt {x : Int32} {off : Int} {tgt : Nat} (hd : decode mi.2.1 pc = .ok (.ifCond .lt off, 3)) (ht : (pc : Int) + off = (tgt : Int)) (kt : x < 0 → ZW G mi fr lo (tgt) vs (st) S I L bc bs Q) (kf : ¬ x < 0 → ZW G mi fr lo (pc + 3) vs (st) S I L bc bs Q) : ZW G mi fr lo (pc) vs (.int x :: st) S I L bc bs Q :=
  fun p l e R s m args below meth c H locs cells slots ls Z C hW hS hl hc hs hk => lv_if_lt C.1 C.2.1 hd ht (fun q => kt q p l e R s m args below meth c H locs cells slots ls Z C hW hS hl hc hs hk) (fun q => kf q p l e R s m args below meth c H locs cells slots ls Z C hW hS hl hc hs hk)
theorem zr_ifge {x : Int32} {off : Int} {tgt : Nat} (hd : decode mi.2.1 pc = .ok (.ifCond .ge off, 3)) (ht : (pc : Int) + off = (tgt : Int)) (kt : 0 ≤ x → ZW G mi fr lo (tgt) vs (st) S I L bc bs Q) (kf : ¬ 0 ≤ x → ZW G mi fr lo (pc + 3) vs (st) S I L bc bs Q) : ZW G mi fr lo (pc) vs (.int x :: st) S I L bc bs Q :=
  fun p l e R s m args below meth c H locs cells slots ls Z C hW hS hl hc hs hk => lv_if_ge C.1 C.2.1 hd ht (fun q => kt q p l e R s m args below meth c H locs cells slots ls Z C hW hS hl hc hs hk) (fun q => kf q p l e R s m args below meth c H locs cells slots ls Z C hW hS hl hc hs hk)
theorem zr_ifgt {x : Int32} {off : Int} {tgt : Nat} (hd : decode mi.2.1 pc = .ok (.ifCond .gt off, 3)) (ht : (pc : Int) + off = (tgt : Int)) (kt : 0 < x → ZW G mi fr lo (tgt) vs (st) S I L bc bs Q) (kf : ¬ 0 < x → ZW G mi fr lo (pc + 3) vs (st) S I L bc bs Q) : ZW G mi fr lo (pc) vs (.int x :: st) S I L bc bs Q :=
  fun p l e R s m args below meth c H locs cells slots ls Z C hW hS hl hc hs hk => lv_if_gt C.1 C.2.1 hd ht (fun q => kt q p l e R s m args below meth c H locs cells slots ls Z C hW hS hl hc hs hk) (fun q => kf q p l e R s m args below meth c H locs cells slots ls Z C hW hS hl hc hs hk)
theorem zr_ifle {x : Int32} {off : Int} {tgt : Nat} (hd : decode mi.2.1 pc = .ok (.ifCond .le off, 3)) (ht : (pc : Int) + off = (tgt : Int)) (kt : x ≤ 0 → ZW G mi fr lo (tgt) vs (st) S I L bc bs Q) (kf : ¬ x ≤ 0 → ZW G mi fr lo (pc + 3) vs (st) S I L bc bs Q) : ZW G mi fr lo (pc) vs (.int x :: st) S I L bc bs Q :=
  fun p l e R s m args below meth c H locs cells slots ls Z C hW hS hl hc hs hk => lv_if_le C.1 C.2.1 hd ht (fun q => kt q p l e R s m args below meth c H locs cells slots ls Z C hW hS hl hc hs hk) (fun q => kf q p l e R s m args below meth c H locs cells slots ls Z C hW hS hl hc hs hk)
theorem zr_iceq {x y : Int32} {off : Int} {tgt : Nat} (hd : decode mi.2.1 pc = .ok (.if_icmp .eq off, 3)) (ht : (pc : Int) + off = (tgt : Int)) (kt : x = y → ZW G mi fr lo (tgt) vs (st) S I L bc bs Q) (kf : ¬ x = y → ZW G mi fr lo (pc + 3) vs (st) S I L bc bs Q) : ZW G mi fr lo (pc) vs (.int y :: .int x :: st) S I L bc bs Q :=
  fun p l e R s m args below meth c H locs cells slots ls Z C hW hS hl hc hs hk => lv_icmp_eq C.1 C.2.1 hd ht (fun q => kt q p l e R s m args below meth c H locs cells slots ls Z C hW hS hl hc hs hk) (fun q => kf q p l e R s m args below meth c H locs cells slots ls Z C hW hS hl hc hs hk)
theorem zr_icne {x y : Int32} {off : Int} {tgt : Nat} (hd : decode mi.2.1 pc = .ok (.if_icmp .ne off, 3)) (ht : (pc : Int) + off = (tgt : Int)) (kt : ¬ x = y → ZW G mi fr lo (tgt) vs (st) S I L bc bs Q) (kf : x = y → ZW G mi fr lo (pc + 3) vs (st) S I L bc bs Q) : ZW G mi fr lo (pc) vs (.int y :: .int x :: st) S I L bc bs Q :=
  fun p l e R s m args below meth c H locs cells slots ls Z C hW hS hl hc hs hk => lv_icmp_ne C.1 C.2.1 hd ht (fun q => kt q p l e R s m args below meth c H locs cells slots ls Z C hW hS hl hc hs hk) (fun q => kf q p l e R s m args below meth c H locs cells slots ls Z C hW hS hl hc hs hk)
theorem zr_iclt {x y : Int32} {off : Int} {tgt : Nat} (hd : decode mi.2.1 pc = .ok (.if_icmp .lt off, 3)) (ht : (pc : Int) + off = (tgt : Int)) (kt : x < y → ZW G mi fr lo (tgt) vs (st) S I L bc bs Q) (kf : ¬ x < y → ZW G mi fr lo (pc + 3) vs (st) S I L bc bs Q) : ZW G mi fr lo (pc) vs (.int y :: .int x :: st) S I L bc bs Q :=
  fun p l e R s m args below meth c H locs cells slots ls Z C hW hS hl hc hs hk => lv_icmp_lt C.1 C.2.1 hd ht (fun q => kt q p l e R s m args below meth c H locs cells slots ls Z C hW hS hl hc hs hk) (fun q => kf q p l e R s m args below meth c H locs cells slots ls Z C hW hS hl hc hs hk)
theorem zr_icge {x y : Int32} {off : Int} {tgt : Nat} (hd : decode mi.2.1 pc = .ok (.if_icmp .ge off, 3)) (ht : (pc : Int) + off = (tgt : Int)) (kt : y ≤ x → ZW G mi fr lo (tgt) vs (st) S I L bc bs Q) (kf : ¬ y ≤ x → ZW G mi fr lo (pc + 3) vs (st) S I L bc bs Q) : ZW G mi fr lo (pc) vs (.int y :: .int x :: st) S I L bc bs Q :=
  fun p l e R s m args below meth c H locs cells slots ls Z C hW hS hl hc hs hk => lv_icmp_ge C.1 C.2.1 hd ht (fun q => kt q p l e R s m args below meth c H locs cells slots ls Z C hW hS hl hc hs hk) (fun q => kf q p l e R s m args below meth c H locs cells slots ls Z C hW hS hl hc hs hk)
theorem zr_icgt {x y : Int32} {off : Int} {tgt : Nat} (hd : decode mi.2.1 pc = .ok (.if_icmp .gt off, 3)) (ht : (pc : Int) + off = (tgt : Int)) (kt : y < x → ZW G mi fr lo (tgt) vs (st) S I L bc bs Q) (kf : ¬ y < x → ZW G mi fr lo (pc + 3) vs (st) S I L bc bs Q) : ZW G mi fr lo (pc) vs (.int y :: .int x :: st) S I L bc bs Q :=
  fun p l e R s m args below meth c H locs cells slots ls Z C hW hS hl hc hs hk => lv_icmp_gt C.1 C.2.1 hd ht (fun q => kt q p l e R s m args below meth c H locs cells slots ls Z C hW hS hl hc hs hk) (fun q => kf q p l e R s m args below meth c H locs cells slots ls Z C hW hS hl hc hs hk)
theorem zr_icle {x y : Int32} {off : Int} {tgt : Nat} (hd : decode mi.2.1 pc = .ok (.if_icmp .le off, 3)) (ht : (pc : Int) + off = (tgt : Int)) (kt : x ≤ y → ZW G mi fr lo (tgt) vs (st) S I L bc bs Q) (kf : ¬ x ≤ y → ZW G mi fr lo (pc + 3) vs (st) S I L bc bs Q) : ZW G mi fr lo (pc) vs (.int y :: .int x :: st) S I L bc bs Q :=
  fun p l e R s m args below meth c H locs cells slots ls Z C hW hS hl hc hs hk => lv_icmp_le C.1 C.2.1 hd ht (fun q => kt q p l e R s m args below meth c H locs cells slots ls Z C hW hS hl hc hs hk) (fun q => kf q p l e R s m args below meth c H locs cells slots ls Z C hW hS hl hc hs hk)
theorem zr_tabIn {dflt lo1 hi : Int} {offs : Array Int} {len : Nat} {x : Int32} {off : Int} {tgt : Nat} (hd : decode mi.2.1 pc = .ok (.tableswitch dflt lo1 hi offs, len)) (h1 : ¬ x.toInt < lo1) (h2 : ¬ hi < x.toInt) (ho : offs[(x.toInt - lo1).toNat]? = some off) (ht : (pc : Int) + off = (tgt : Int)) (k : ZW G mi fr lo (tgt) vs (st) S I L bc bs Q) : ZW G mi fr lo (pc) vs (.int x :: st) S I L bc bs Q :=
  fun p l e R s m args below meth c H locs cells slots ls Z C hW hS hl hc hs hk => lv_tableIn C.1 C.2.1 hd h1 h2 ho ht (k p l e R s m args below meth c H locs cells slots ls Z C hW hS hl hc hs hk)
theorem zr_tabOut {dflt lo1 hi : Int} {offs : Array Int} {len : Nat} {x : Int32} {tgt : Nat} (hd : decode mi.2.1 pc = .ok (.tableswitch dflt lo1 hi offs, len)) (h : x.toInt < lo1 ∨ hi < x.toInt) (ht : (pc : Int) + dflt = (tgt : Int)) (k : ZW G mi fr lo (tgt) vs (st) S I L bc bs Q) : ZW G mi fr lo (pc) vs (.int x :: st) S I L bc bs Q :=
  fun p l e R s m args below meth c H locs cells slots ls Z C hW hS hl hc hs hk => lv_tableOut C.1 C.2.1 hd h ht (k p l e R s m args below meth c H locs cells slots ls Z C hW hS hl hc hs hk)
theorem zr_ldc {idx : Nat} {v : Int32} (hd : decode mi.2.1 pc = .ok (.ldc idx, 2)) (hc0 : Cond.constant mi.1.cls idx v ∈ ZTbl) (k : ZW G mi fr lo (pc + 2) vs (.int v :: st) S I L bc bs Q) : ZW G mi fr lo (pc) vs (st) S I L bc bs Q :=
  fun p l e R s m args below meth c H locs cells slots ls Z C hW hS hl hc hs hk => lv_ldc C.1 C.2.1 C.2.2.2.1 (C.2.2.2.2.1 _ hc0) hd (k p l e R s m args below meth c H locs cells slots ls Z C hW hS hl hc hs hk)
theorem zr_ldc_w {idx : Nat} {v : Int32} (hd : decode mi.2.1 pc = .ok (.ldc_w idx, 3)) (hc0 : Cond.constant mi.1.cls idx v ∈ ZTbl) (k : ZW G mi fr lo (pc + 3) vs (.int v :: st) S I L bc bs Q) : ZW G mi fr lo (pc) vs (st) S I L bc bs Q :=
  fun p l e R s m args below meth c H locs cells slots ls Z C hW hS hl hc hs hk => lv_ldcw C.1 C.2.1 C.2.2.2.1 (C.2.2.2.2.1 _ hc0) hd (k p l e R s m args below meth c H locs cells slots ls Z C hW hS hl hc hs hk)
theorem zr_ldc2_w {idx : Nat} {v : Int64} (hd : decode mi.2.1 pc = .ok (.ldc2_w idx, 3)) (hc0 : Cond.constantLong mi.1.cls idx v ∈ ZTbl) (k : ZW G mi fr lo (pc + 3) vs (.long v :: st) S I L bc bs Q) : ZW G mi fr lo (pc) vs (st) S I L bc bs Q :=
  fun p l e R s m args below meth c H locs cells slots ls Z C hW hS hl hc hs hk => lv_ldc2 C.1 C.2.1 C.2.2.2.1 (C.2.2.2.2.1 _ hc0) hd (k p l e R s m args below meth c H locs cells slots ls Z C hW hS hl hc hs hk)
theorem zr_ireturn {x : Int32} {ty : FieldType} (hd : decode mi.2.1 pc = .ok (.ireturn, 1)) (hr : mi.2.2.2 = some ty) (hn : narrow ty (.int x) = .int x) (hq : Q (some (.int x)) S I L) : ZW G mi fr lo (pc) vs ([.int x]) S I L bc bs Q :=
  fun p l e R s m args below meth c H locs cells slots ls Z C hW hS hl hc hs hk => hk H locs cells slots pc S I L (some (.int x)) ls (Or.inl ⟨x, ty, rfl, hd, hr, hn⟩) hq hW hS (by omega) (by omega)
theorem zr_lreturn {x : Int64} (hd : decode mi.2.1 pc = .ok (.lreturn, 1)) (hr : mi.2.2.2 = some .long) (hq : Q (some (.long x)) S I L) : ZW G mi fr lo (pc) vs ([.long x]) S I L bc bs Q :=
  fun p l e R s m args below meth c H locs cells slots ls Z C hW hS hl hc hs hk => hk H locs cells slots pc S I L (some (.long x)) ls (Or.inr (Or.inl ⟨x, rfl, hd, hr⟩)) hq hW hS (by omega) (by omega)
theorem zr_return_  (hd : decode mi.2.1 pc = .ok (.return_, 1)) (hr : mi.2.2.2 = none) (hq : Q none S I L) : ZW G mi fr lo (pc) vs ([]) S I L bc bs Q :=
  fun p l e R s m args below meth c H locs cells slots ls Z C hW hS hl hc hs hk => hk H locs cells slots pc S I L none ls (Or.inr (Or.inr (Or.inl ⟨rfl, hd, hr⟩))) hq hW hS (by omega) (by omega)
theorem zr_areturn {a : Nat} {n : String} (hd : decode mi.2.1 pc = .ok (.areturn, 1)) (hr : mi.2.2.2 = some (.object n)) (hq : Q (some (.ref a)) S I L) : ZW G mi fr lo (pc) vs ([.ref a]) S I L bc bs Q :=
  fun p l e R s m args below meth c H locs cells slots ls Z C hW hS hl hc hs hk => hk H locs cells slots pc S I L (some (.ref a)) ls (Or.inr (Or.inr (Or.inr ⟨.ref a, .object n, rfl, hd, hr, Or.inl ⟨n, rfl⟩, Or.inr ⟨a, rfl⟩⟩))) hq hW hS (by omega) (by omega)
end ZOF
