def ZCl (ci : Nat) (C : String) (T : u_T) (N : Nat) : Prop := vwCl[ci]? = some (C, T, N) ∧ (∀ w ∈ u_ws C T N, w ∈ ZTbl) ∧ (∀ k, k < N → parseFieldDescriptor (T k).2.2.1 = some (zTy ci k)) ∧ (∀ a, a < N → ∀ b, b < N → a ≠ b → (T a).2.1 ≠ (T b).2.1)
def ZFl (own : String) (idx ci k : Nat) (fin : Bool) : Prop := ∃ (C : String) (T : u_T) (N : Nat), ZCl ci C T N ∧ k < N ∧ Cond.fieldLink own idx (T k).1 (T k).2.1 (T k).2.2.1 ∈ ZTbl ∧ (T k).2.2.2 = fin
def zHas (S : zSh) (a : Nat) (kd : Nat × Nat) : Prop := zpm a < zN S ∧ zK S a = kd
theorem zNf_eq {ci : Nat} {C : String} {T : u_T} {N : Nat} (h : ZCl ci C T N) : zNf ci = N := by
  unfold zNf
  rw [h.1]
theorem ZWorld.set {D : va_G} {cA : Nat → ClassId} {B : Nat} {S S' : zSh} {I I' : zFI} {L L' : zFL} {s : State} {H H1 : Heap} {a : Nat} (hW : ZWorld D cA B S I L s H) (ha : zpm a < zN S) (hN : zN S' = zN S)
    (hrest : ∀ b, b ≠ a → zK S b = zK S' b ∧ I b = I' b ∧ L b = L' b ∧ zR S b = zR S' b) (z : H1.size = H.size) (oq : ∀ q : Nat, q ≠ B + zpm a → H1[q]? = H[q]?) (he : va_at D vwCl (B + zpm a, zce cA B (zK S' a) (I' a) (L' a) (zR S' a)) H1) : ZWorld D cA B S' I' L' s H1 := by
  refine ⟨by rw [z, hW.1, hN], ?_, hW.2.2.1, fun b hb => ?_⟩
  · rw [← zw_set hN rfl hrest]
    exact hW.2.1.set (zw_D cA B S I L) (zw_at ha) he oq
  · have hba : b ≠ a := fun q => by rw [q] at hb; omega
    obtain ⟨h1, h2, h3, h4⟩ := hrest b hba
    rw [← h2, ← h3, ← h4]
    exact hW.2.2.2 b (by omega)
theorem ZWorld.push {D : va_G} {cA : Nat → ClassId} {B : Nat} {S : zSh} {I : zFI} {L : zFL} {s : State} {H H1 : Heap} {kd : Nat × Nat} (hW : ZWorld D cA B S I L s H)
    (z : H1.size = H.size + 1) (oq : ∀ q : Nat, q < H.size → H1[q]? = H[q]?) (he : va_at D vwCl (B + zN S, zce cA B kd (fun _ => 0) (fun _ => 0) (fun _ => none)) H1) : ZWorld D cA B (zN S + 1, fun a => if a = zpi (zN S) then kd else zK S a, zR S) I L s H1 := by
  refine ⟨by rw [z, hW.1]; rfl, ?_, hW.2.2.1, fun b hb => hW.2.2.2 b (Nat.le_of_succ_le hb)⟩
  obtain ⟨e1, e2, e3⟩ := hW.2.2.2 (zpi (zN S)) (by rw [zpm_pi]; exact Nat.le_refl _)
  have hk : ∀ (k : Nat) (x : Nat × va_E), (zwld cA B S I L)[k]? = some x → H1[x.1]? = H[x.1]? := fun k x hx => oq x.1 ((hW.2.1 k x hx).lt)
  have hl : zwld cA B (zN S + 1, fun a => if a = zpi (zN S) then kd else zK S a, zR S) I L = zwld cA B S I L ++ [(B + zN S, zce cA B kd (fun _ => 0) (fun _ => 0) (fun _ => none))] := by
    unfold zwld
    rw [show zN ((zN S + 1, fun a => if a = zpi (zN S) then kd else zK S a, zR S) : zSh) = zN S + 1 from rfl, List.range_succ, List.map_append]
    congr 1
    · apply List.map_congr_left
      intro i hi
      have hi2 : ¬ zpi i = zpi (zN S) := fun q => by
        have h3 : i = zN S := by rw [← zpm_pi i, q, zpm_pi]
        exact absurd h3 (Nat.ne_of_lt (List.mem_range.mp hi))
      show (B + i, zce cA B (if zpi i = zpi (zN S) then kd else zK S (zpi i)) (I (zpi i)) (L (zpi i)) (zR S (zpi i))) = _
      rw [if_neg hi2]
    · show [(B + zN S, zce cA B (if zpi (zN S) = zpi (zN S) then kd else zK S (zpi (zN S))) (I (zpi (zN S))) (L (zpi (zN S))) (zR S (zpi (zN S))))] = _
      rw [if_pos rfl, funext e1, funext e2, funext e3]
  rw [hl]
  refine (hW.2.1.kept hk).app (fun k x hx => ?_)
  have hz : k < 1 := (List.getElem?_eq_some_iff.mp hx).1
  rw [show k = 0 by omega] at hx
  cases hx
  exact he
section ZH
variable {G : Gp} {mi : Mi} {fr lo pc : Nat} {vs st : List Value} {S : zSh} {I : zFI} {L : zFL} {bc bs : Nat} {Q : zPost}
theorem zr_get {idx ci k o : Nat} {fin : Bool} {v : Value} (hd : decode mi.2.1 pc = .ok (.getfield idx, 3)) (hf : ZFl mi.1.cls idx ci k fin) (ho : zHas S o (0, ci)) (hv : zfv (gB G) (I o) (L o) (zR S o) ci k = v)
    (kk : ZW G mi fr lo (pc + 3) vs (v :: st) S I L bc bs Q) : ZW G mi fr lo pc vs (zo G o :: st) S I L bc bs Q := by
  intro p l e R s m args below meth c H locs cells slots ls Z C hW hS hl hc hs hk
  obtain ⟨C0, T, N, hcl, hk2, hlink, -⟩ := hf
  refine va_get (D := gD G) (cl := vwCl) (ws := zwld (gA G) (gB G) S I L) C.1 C.2.1 (Ts := ZTbl) C.2.2.2.2.1 hcl.2.1 C.2.2.2.1 hW.2.2.1 hW.2.1 (zpm o) (fs := (List.range (zNf ci)).map (fun k => zfv (gB G) (I o) (L o) (zR S o) ci k)) ?_ hcl.1 k hk2 (C.2.2.2.2.1 _ hlink) (fun _ h => h) (v := v) ?_ hd (kk p l e R s m args below meth c H locs cells slots ls Z C hW hS hl hc hs hk)
  · rw [zw_at ho.1, ho.2]
    rfl
  · rw [List.getElem?_map, List.getElem?_range (by rw [zNf_eq hcl]; exact hk2)]
    simp [hv]
theorem zr_getI {idx ci k o : Nat} {fin : Bool} (hd : decode mi.2.1 pc = .ok (.getfield idx, 3)) (hf : ZFl mi.1.cls idx ci k fin) (hc0 : zCd (zTy ci k) = 0) (ho : zHas S o (0, ci))
    (kk : ZW G mi fr lo (pc + 3) vs (.int (I o k) :: st) S I L bc bs Q) : ZW G mi fr lo pc vs (zo G o :: st) S I L bc bs Q := zr_get hd hf ho (by simp [zfv, hc0]) kk
theorem zr_getJ {idx ci k o : Nat} {fin : Bool} (hd : decode mi.2.1 pc = .ok (.getfield idx, 3)) (hf : ZFl mi.1.cls idx ci k fin) (hc0 : zCd (zTy ci k) = 1) (ho : zHas S o (0, ci))
    (kk : ZW G mi fr lo (pc + 3) vs (.long (L o k) :: st) S I L bc bs Q) : ZW G mi fr lo pc vs (zo G o :: st) S I L bc bs Q := zr_get hd hf ho (by simp [zfv, hc0]) kk
theorem zr_getR {idx ci k o a : Nat} {fin : Bool} (hd : decode mi.2.1 pc = .ok (.getfield idx, 3)) (hf : ZFl mi.1.cls idx ci k fin) (hc0 : zCd (zTy ci k) = 2) (ho : zHas S o (0, ci)) (ha : zR S o k = some a)
    (kk : ZW G mi fr lo (pc + 3) vs (zo G a :: st) S I L bc bs Q) : ZW G mi fr lo pc vs (zo G o :: st) S I L bc bs Q := zr_get hd hf ho (by simp [zfv, hc0, ha, zrf, va_rf]) kk
set_option maxHeartbeats 2000000 in
theorem zr_put {idx ci k o : Nat} {fin : Bool} {v : Value} {S' : zSh} {I' : zFI} {L' : zFL} (hd : decode mi.2.1 pc = .ok (.putfield idx, 3)) (hf : ZFl mi.1.cls idx ci k fin) (hfin : fin = false ∨ (mi.1.name = "<init>" ∧ ∃ C T N, vwCl[ci]? = some (C, T, N) ∧ (T k).1 = mi.1.cls)) (ho : zHas S o (0, ci)) (hn : narrow (zTy ci k) v = v) (hfit : fits (zTy ci k) v = true)
    (hN : zN S' = zN S) (hK : zK S' o = zK S o) (hv : zfv (gB G) (I' o) (L' o) (zR S' o) ci k = v) (hoth : ∀ j, j ≠ k → zfv (gB G) (I' o) (L' o) (zR S' o) ci j = zfv (gB G) (I o) (L o) (zR S o) ci j)
    (hrest : ∀ b, b ≠ o → zK S b = zK S' b ∧ I b = I' b ∧ L b = L' b ∧ zR S b = zR S' b)
    (kk : ZW G mi fr lo (pc + 3) vs st S' I' L' bc bs Q) : ZW G mi fr lo pc vs (v :: zo G o :: st) S I L bc bs Q := by
  intro p l e R s m args below meth c H locs cells slots ls Z C hW hS hl hc hs hk
  obtain ⟨C0, T, N, hcl, hk2, hlink, hft⟩ := hf
  have hP := hW.2.1
  have hKK := hW.2.2.1
  have hts := C.2.2.2.2.1
  have hap := va_apart (own := mi.1.cls) hts hcl.2.1 (zTy ci) hcl.2.2.1 hcl.2.2.2 hKK hcl.1
  have hw0 : (zwld (gA G) (gB G) S I L)[zpm o]? = some (gB G + zpm o, .inr (ci, (List.range (zNf ci)).map (fun k => zfv (gB G) (I o) (L o) (zR S o) ci k))) := by
    rw [zw_at ho.1, ho.2]
    rfl
  obtain ⟨r, h1, cell, q1, q2, q3, q4⟩ := hP (zpm o) _ hw0
  have hr : r = (C0, T, N) := Option.some.inj (h1.symm.trans hcl.1)
  subst hr
  obtain ⟨hSl, hfc, kC, hkC, hkind⟩ := hKK.1 ci _ hcl.1
  obtain ⟨cf, kf, fi, f, hi, hsl⟩ := hSl k hk2
  have hst := (u_facts hfc hkC (u_lays hts hcl.2.1 hk2) hi).1
  have hd2 := hcl.2.2.1 k hk2
  have done : ∀ H' : Heap, H'[gB G + zpm o]? = some (cell.setSlot f.slot v) → H'.size = H.size → (∀ q, q ≠ gB G + zpm o → H'[q]? = H[q]?) → W p l e R s m args below meth c H' (locs ++ [⟨gB G + zpm o, f.slot⟩]) cells slots Z (F0 m (pc + 3) ls st) := by
    intro H' e1 e2 e3
    rw [hsl] at e1 ⊢
    refine kk p l e R s m args below meth c H' _ cells slots ls Z C (hW.set ho.1 hN hrest e2 e3 ?_) (hS.put e2 e3 (Nat.le_add_right _ _)) hl hc hs hk
    rw [hK, ho.2]
    refine ⟨_, hcl.1, t_OB.to (V := updV (vp_V ((List.range (zNf ci)).map (fun k => zfv (gB G) (I o) (L o) (zR S o) ci k))) k v) ⟨_, e1, q2, q3, t_set q4 hap hk2 v⟩ (fun j hj => ?_)⟩
    have hj' : j < zNf ci := by rw [zNf_eq hcl]; exact hj
    have e5 : vp_V ((List.range (zNf ci)).map (fun k => zfv (gB G) (I' o) (L' o) (zR S' o) ci k)) j = zfv (gB G) (I' o) (L' o) (zR S' o) ci j := by
      unfold vp_V
      rw [List.getD_eq_getElem?_getD, List.getElem?_map, List.getElem?_range hj']
      rfl
    have e6 : vp_V ((List.range (zNf ci)).map (fun k => zfv (gB G) (I o) (L o) (zR S o) ci k)) j = zfv (gB G) (I o) (L o) (zR S o) ci j := by
      unfold vp_V
      rw [List.getD_eq_getElem?_getD, List.getElem?_map, List.getElem?_range hj']
      rfl
    show updV _ k v j = vp_V _ j
    rw [e5]
    by_cases hjk : j = k
    · subst hjk
      rw [hv]
      simp [updV]
    · rw [hoth j hjk]
      simp [updV, hjk, e6]
  have hlay := hts _ (hcl.2.1 _ (u_in_lay hk2))
  unfold u_lay at hlay
  cases hb : (T k).2.2.2 with
  | false =>
    rw [if_neg (by rw [hb]; decide)] at hlay
    have h6 := u_store hfc hkC hkind hlay hi hd2 hn hfit
    exact W.putK C.1 C.2.1 (f := f) ⟨C.2.2.2.1, hts _ hlink, ⟨_, _, _, hi⟩, hst⟩ (by rw [q2]; exact h6) q1 q3 (by rw [hsl]; exact k2_hasslot (q4 k hk2)) rfl rfl hd done
  | true =>
    rw [if_pos hb] at hlay
    rcases hfin with hfin | ⟨hnm, C1, T1, N1, hc1, hown1⟩
    · rw [hfin, hb] at hft
      cases hft
    · have h7 := hc1.symm.trans hcl.1
      cases h7
      have hcf : m.cls = cf := by
        obtain ⟨_, _, c', _, _, _, -, -, hf', -, -, -, hown2, -⟩ := Cond.laysFinal_spec hlay
        have e1 : c' = cf := by have := hi.symm.trans hf'; simp at this; exact this.1.symm
        rw [hown1] at hown2
        rw [← e1]; exact Option.some.inj (C.2.2.2.1.symm.trans hown2)
      have h6 := u_fits hfc hkC hkind (Or.inr hlay) hi hd2 hn hfit
      exact W.putFinK C.1 C.2.1 C.2.2.2.1 (hts _ hlink) hi hst hcf (by rw [C.2.2.2.2.2.1]; exact hnm) (by rw [q2]; exact h6) q1 q3 (by rw [hsl]; exact k2_hasslot (q4 k hk2)) rfl rfl hd done
theorem u2_same {α : Type} (f : Nat → Nat → α) (a k : Nat) (x : α) : u2 f a k x a k = x := by simp [u2]
theorem u2_ne {α : Type} (f : Nat → Nat → α) (a k : Nat) (x : α) {b j : Nat} (h : ¬ (b = a ∧ j = k)) : u2 f a k x b j = f b j := by simp [u2, h]
theorem u2_row {α : Type} (f : Nat → Nat → α) (a k : Nat) (x : α) {b : Nat} (h : b ≠ a) : f b = u2 f a k x b := by
  funext j
  rw [u2_ne]
  exact fun q => h q.1
theorem zr_putI {idx ci k o : Nat} {x : Int32} (hd : decode mi.2.1 pc = .ok (.putfield idx, 3)) (hf : ZFl mi.1.cls idx ci k false) (hc0 : zCd (zTy ci k) = 0) (ho : zHas S o (0, ci)) (hn : narrow (zTy ci k) (.int x) = .int x) (hfit : fits (zTy ci k) (.int x) = true)
    (kk : ZW G mi fr lo (pc + 3) vs st S (u2 I o k x) L bc bs Q) : ZW G mi fr lo pc vs (.int x :: zo G o :: st) S I L bc bs Q :=
  zr_put hd hf (Or.inl rfl) ho hn hfit rfl rfl (by simp [zfv, hc0, u2_same]) (fun j hj => by unfold zfv; split <;> first | rfl | rw [u2_ne _ _ _ _ (fun q => hj q.2)]) (fun b hb => ⟨rfl, u2_row _ _ _ _ hb, rfl, rfl⟩) kk
theorem zr_putJ {idx ci k o : Nat} {x : Int64} (hd : decode mi.2.1 pc = .ok (.putfield idx, 3)) (hf : ZFl mi.1.cls idx ci k false) (hc0 : zCd (zTy ci k) = 1) (ho : zHas S o (0, ci)) (hn : narrow (zTy ci k) (.long x) = .long x) (hfit : fits (zTy ci k) (.long x) = true)
    (kk : ZW G mi fr lo (pc + 3) vs st S I (u2 L o k x) bc bs Q) : ZW G mi fr lo pc vs (.long x :: zo G o :: st) S I L bc bs Q :=
  zr_put hd hf (Or.inl rfl) ho hn hfit rfl rfl (by simp [zfv, hc0, u2_same]) (fun j hj => by unfold zfv; split <;> first | rfl | rw [u2_ne _ _ _ _ (fun q => hj q.2)]) (fun b hb => ⟨rfl, rfl, u2_row _ _ _ _ hb, rfl⟩) kk
theorem zr_putR {idx ci k o a : Nat} {fin : Bool} (hd : decode mi.2.1 pc = .ok (.putfield idx, 3)) (hf : ZFl mi.1.cls idx ci k fin) (hfin : fin = false ∨ (mi.1.name = "<init>" ∧ ∃ C T N, vwCl[ci]? = some (C, T, N) ∧ (T k).1 = mi.1.cls)) (hc0 : zCd (zTy ci k) = 2) (ho : zHas S o (0, ci)) (hn : narrow (zTy ci k) (zo G a) = zo G a) (hfit : fits (zTy ci k) (zo G a) = true)
    (kk : ZW G mi fr lo (pc + 3) vs st (zN S, zK S, u2 (zR S) o k (some a)) I L bc bs Q) : ZW G mi fr lo pc vs (zo G a :: zo G o :: st) S I L bc bs Q :=
  zr_put (S' := (zN S, zK S, u2 (zR S) o k (some a))) hd hf hfin ho hn hfit rfl rfl (by show zfv (gB G) (I o) (L o) (u2 (zR S) o k (some a) o) ci k = _; simp [zfv, hc0, u2_same, zrf, va_rf]) (fun j hj => by show zfv (gB G) (I o) (L o) (u2 (zR S) o k (some a) o) ci j = _; unfold zfv; split <;> first | rfl | rw [u2_ne _ _ _ _ (fun q => hj q.2)]) (fun b hb => ⟨rfl, rfl, rfl, u2_row _ _ _ _ hb⟩) kk
end ZH
