/-! the law's cases -/
theorem p2_use {G : Gp} {s : State} {S S' S'' : zSh} {I'' : zFI} {L'' : zFL} {σ σ' : Nat} {H'' : Heap} (hg : zGrw S S'' σ σ') (hW : ZWorld (gD G) (gA G) (gB G) S'' I'' L'' s H'') (h : ∃ H' : Heap, (∃ H : Heap, zP0 G s S σ H ∧ H.size = gB G + zN S ∧ zSm H H') ∧ H'.size = gB G + zN S' ∧ zSm H' H'') : zN S'' ≤ zN S'' ∧ zTot (gB G) H'' ≤ σ' ∧ zP0 G s S'' σ' H'' := by
  obtain ⟨H', ⟨H, ⟨h1, h2, h3⟩, -, h4⟩, -, h5⟩ := h
  have w := h4.trans h5
  have t := zTot_grw h1 h3 w hW hg
  exact ⟨Nat.le_refl _, t, t, zRec_sm h2 w, hW.1⟩
theorem bg_room {S : zSh} {σ : Nat} (g : zBg S σ) : zN S + 2 ≤ 600000 ∧ σ + 131072 ≤ 7302250 := by
  obtain ⟨k, k1, k2, k3, k4⟩ := g
  have : 2 ^ k ≤ 2 ^ 16 := Nat.pow_le_pow_right (by omega) k1
  have e : (2 : Nat) ^ 16 = 65536 := rfl
  omega
theorem zIn.std {S : zSh} {I : zFI} {L : zFL} (h : zIn S I L) : zStd S := by
  obtain ⟨n, jn, mn, tl, ln, on, h, -⟩ := h
  exact h.1
theorem lg_cmp_0 (x : Int64) : lg_cmp x x = 0 := by
  unfold lg_cmp
  simp
theorem zl_if01 {G : Gp} {p : Program} {l : Launch} {e : Env} {R : Room} {s : State} {m : MethodId} {args : Array Value} {below : List Frame} {meth : Method} {c : Code} {Z : State → Prop} {pc fr lo : Nat} {vs st : List Value} {S : zSh} {I : zFI} {L : zFL} {ck cn : Nat} {P : Heap → Prop} {x : Int32} (C : ZCx G (zLaw meth.name) fr lo p R s m args meth c) (h1 : decode cL_law pc = .ok (.ifCond .eq 7, 3)) (h2 : decode cL_law (pc + 3) = .ok (.iconst 1, 1)) (h3 : decode cL_law (pc + 3 + 1) = .ok (.goto 4, 3)) (h4 : decode cL_law (pc + 7) = .ok (.iconst 0, 1)) (k : ZL G p l e R s m args below meth c Z (pc + 8) vs (.int (if x = 0 then 0 else 1) :: st) S I L ck cn P) : ZL G p l e R s m args below meth c Z pc vs (.int x :: st) S I L ck cn P := by
  refine zl_ifeq (tgt := pc + 7) C h1 (by omega) (fun h => ?_) (fun h => ?_)
  · rw [if_pos h] at k
    exact zl_iconst C h4 rfl k
  · rw [if_neg h] at k
    exact zl_iconst C h2 rfl (zl_goto C h3 (by omega) k)
theorem lc_0 {G : Gp} {p : Program} {l : Launch} {e : Env} {s : State} {m : MethodId} {args : Array Value} {below : List Frame} {meth : Method} {c : Code} {Z : State → Prop} {b Ln i σ : Nat} {xs : Nat → Int32} {S : zSh} {I : zFI} {L : zFL} (C : ZCx G (zLaw meth.name) 13 510 p room_1 s m args meth c) (hX : va_X b Ln xs s s.heap) (hb : b < gB G) (hB : gB G = s.heap.size) (hi : i + 6 ≤ Ln) (hLn : Ln ≤ 3072) (hI : zIn S I L) (g : zBg S σ) (next : ∀ (S' : zSh) (I' : zFI) (L' : zFL) (σ' : Nat), zIn S' I' L' → zBg S' σ' → ZL G p l e room_1 s m args below meth c Z 1280 [.ref b, zo G 0, zo G 84, .int (nI i)] [] S' I' L' (zN S') σ' (zP0 G s S' σ')) : ZL G p l e room_1 s m args below meth c Z 176 [.ref b, zo G 0, zo G 84, .int (nI i)] [] S I L (zN S) σ (zP0 G s S σ) := by
  have hin := sc_in hi hLn
  have hS := hI.std
  have hr := bg_room g
  refine zl_aload_n C dL_law_176 rfl rfl ?_
  refine zl_aload_n C dL_law_177 rfl rfl ?_
  refine zl_iload_n C dL_law_178 rfl rfl ?_
  refine zl_iconst (v := nI 1) C dL_law_179 (by decide) ?_
  refine zl_iadd C dL_law_180 ?_
  refine zl_sld C hX hb hB dL_law_181 (hin 1 (by decide)) ?_
  refine zl_callV (o := 0) (As := [.int (xs (nI i + nI 1).toNatClampNeg)]) (rest := []) (fr' := fX11_days) (lo' := lX11_days) (bc' := 0) (bs' := 0) C dL_law_182 zs_L_13 zi_X11_days (fun H hW _ => zRec_std zcl_11 (hS.has (a := 0) rfl rfl) hW) rfl rfl (Nat.le_of_ble_eq_true rfl) (Nat.le_of_ble_eq_true rfl) (Nat.le_of_ble_eq_true rfl) (show _ ≤ 600000 by omega) (show _ ≤ 7302250 by omega) ?_
  refine ZC.mono (fun w S' I' L' ⟨r, ew, k2⟩ => ?_) (sp_days hI g)
  subst ew
  show ZL G p l e room_1 s m args below meth c Z 185 [.ref b, zo G 0, zo G 84, .int (nI i)] [.int r] S' I' L' (zN S + 0) (σ + 0) _
  refine zl_aload_n C dL_law_185 rfl rfl ?_
  refine zl_aload_n C dL_law_186 rfl rfl ?_
  refine zl_iload_n C dL_law_187 rfl rfl ?_
  refine zl_iconst (v := nI 1) C dL_law_188 (by decide) ?_
  refine zl_iadd C dL_law_189 ?_
  refine zl_sld C hX hb hB dL_law_190 (hin 1 (by decide)) ?_
  refine zl_callV (o := 84) (As := [.int (xs (nI i + nI 1).toNatClampNeg)]) (rest := [.int r]) (fr' := fX12_days) (lo' := lX12_days) (bc' := 0) (bs' := 0) C dL_law_191 zs_L_17 zi_X12_days (fun H' hW ⟨H, h1, _, h3⟩ => zRec_sm h1.2.1 h3) rfl rfl (Nat.le_of_ble_eq_true rfl) (Nat.le_of_ble_eq_true rfl) (Nat.le_of_ble_eq_true rfl) (show _ ≤ 600000 by omega) (show _ ≤ 7302250 by omega) ?_
  refine ZC.mono (fun w S'' I'' L'' ⟨ew, σ', q1, q2, q3⟩ => ?_) k2
  subst ew
  show ZL G p l e room_1 s m args below meth c Z 194 [.ref b, zo G 0, zo G 84, .int (nI i)] [.int r, .int r] S'' I'' L'' (zN S + 0 + 0) (σ + 0 + 0) _
  refine zl_iceq (tgt := 1280) C dL_law_194 (by decide) (fun _ => ?_) (fun no => absurd rfl no)
  exact zl_nar hB (fun H hW hp => p2_use q1 hW hp) (next S'' I'' L'' σ' q2 q3)
theorem lc_1 {G : Gp} {p : Program} {l : Launch} {e : Env} {s : State} {m : MethodId} {args : Array Value} {below : List Frame} {meth : Method} {c : Code} {Z : State → Prop} {b Ln i σ : Nat} {xs : Nat → Int32} {S : zSh} {I : zFI} {L : zFL} (C : ZCx G (zLaw meth.name) 13 510 p room_1 s m args meth c) (hX : va_X b Ln xs s s.heap) (hb : b < gB G) (hB : gB G = s.heap.size) (hi : i + 6 ≤ Ln) (hLn : Ln ≤ 3072) (hI : zIn S I L) (g : zBg S σ) (next : ∀ (S' : zSh) (I' : zFI) (L' : zFL) (σ' : Nat), zIn S' I' L' → zBg S' σ' → ZL G p l e room_1 s m args below meth c Z 1280 [.ref b, zo G 0, zo G 84, .int (nI i)] [] S' I' L' (zN S') σ' (zP0 G s S' σ')) : ZL G p l e room_1 s m args below meth c Z 199 [.ref b, zo G 0, zo G 84, .int (nI i)] [] S I L (zN S) σ (zP0 G s S σ) := by
  have hin := sc_in hi hLn
  have hS := hI.std
  have hr := bg_room g
  refine zl_aload_n C dL_law_199 rfl rfl ?_
  refine zl_aload_n C dL_law_200 rfl rfl ?_
  refine zl_iload_n C dL_law_201 rfl rfl ?_
  refine zl_iconst (v := nI 1) C dL_law_202 (by decide) ?_
  refine zl_iadd C dL_law_203 ?_
  refine zl_sld C hX hb hB dL_law_204 (hin 1 (by decide)) ?_
  refine zl_callV (o := 0) (As := [.int (xs (nI i + nI 1).toNatClampNeg)]) (rest := []) (fr' := fX11_view) (lo' := lX11_view) (bc' := 0) (bs' := 0) C dL_law_205 zs_L_18 zi_X11_view (fun H hW _ => zRec_std zcl_11 (hS.has (a := 0) rfl rfl) hW) rfl rfl (Nat.le_of_ble_eq_true rfl) (Nat.le_of_ble_eq_true rfl) (Nat.le_of_ble_eq_true rfl) (show _ ≤ 600000 by omega) (show _ ≤ 7302250 by omega) ?_
  refine ZC.mono (fun w S' I' L' ⟨r, ew, k2⟩ => ?_) (sp_view hI g)
  subst ew
  show ZL G p l e room_1 s m args below meth c Z 208 [.ref b, zo G 0, zo G 84, .int (nI i)] [.int r] S' I' L' (zN S + 0) (σ + 0) _
  refine zl_aload_n C dL_law_208 rfl rfl ?_
  refine zl_aload_n C dL_law_209 rfl rfl ?_
  refine zl_iload_n C dL_law_210 rfl rfl ?_
  refine zl_iconst (v := nI 1) C dL_law_211 (by decide) ?_
  refine zl_iadd C dL_law_212 ?_
  refine zl_sld C hX hb hB dL_law_213 (hin 1 (by decide)) ?_
  refine zl_callV (o := 84) (As := [.int (xs (nI i + nI 1).toNatClampNeg)]) (rest := [.int r]) (fr' := fX12_view) (lo' := lX12_view) (bc' := 0) (bs' := 0) C dL_law_214 zs_L_22 zi_X12_view (fun H' hW ⟨H, h1, _, h3⟩ => zRec_sm h1.2.1 h3) rfl rfl (Nat.le_of_ble_eq_true rfl) (Nat.le_of_ble_eq_true rfl) (Nat.le_of_ble_eq_true rfl) (show _ ≤ 600000 by omega) (show _ ≤ 7302250 by omega) ?_
  refine ZC.mono (fun w S'' I'' L'' ⟨ew, σ', q1, q2, q3⟩ => ?_) k2
  subst ew
  show ZL G p l e room_1 s m args below meth c Z 217 [.ref b, zo G 0, zo G 84, .int (nI i)] [.int r, .int r] S'' I'' L'' (zN S + 0 + 0) (σ + 0 + 0) _
  refine zl_iceq (tgt := 1280) C dL_law_217 (by decide) (fun _ => ?_) (fun no => absurd rfl no)
  exact zl_nar hB (fun H hW hp => p2_use q1 hW hp) (next S'' I'' L'' σ' q2 q3)
theorem lc_2 {G : Gp} {p : Program} {l : Launch} {e : Env} {s : State} {m : MethodId} {args : Array Value} {below : List Frame} {meth : Method} {c : Code} {Z : State → Prop} {b Ln i σ : Nat} {xs : Nat → Int32} {S : zSh} {I : zFI} {L : zFL} (C : ZCx G (zLaw meth.name) 13 510 p room_1 s m args meth c) (hX : va_X b Ln xs s s.heap) (hb : b < gB G) (hB : gB G = s.heap.size) (hi : i + 6 ≤ Ln) (hLn : Ln ≤ 3072) (hI : zIn S I L) (g : zBg S σ) (next : ∀ (S' : zSh) (I' : zFI) (L' : zFL) (σ' : Nat), zIn S' I' L' → zBg S' σ' → ZL G p l e room_1 s m args below meth c Z 1280 [.ref b, zo G 0, zo G 84, .int (nI i)] [] S' I' L' (zN S') σ' (zP0 G s S' σ')) : ZL G p l e room_1 s m args below meth c Z 222 [.ref b, zo G 0, zo G 84, .int (nI i)] [] S I L (zN S) σ (zP0 G s S σ) := by
  have hin := sc_in hi hLn
  have hS := hI.std
  have hr := bg_room g
  refine zl_aload_n C dL_law_222 rfl rfl ?_
  refine zl_aload_n C dL_law_223 rfl rfl ?_
  refine zl_iload_n C dL_law_224 rfl rfl ?_
  refine zl_iconst (v := nI 1) C dL_law_225 (by decide) ?_
  refine zl_iadd C dL_law_226 ?_
  refine zl_sld C hX hb hB dL_law_227 (hin 1 (by decide)) ?_
  refine zl_aload_n C dL_law_228 rfl rfl ?_
  refine zl_iload_n C dL_law_229 rfl rfl ?_
  refine zl_iconst (v := nI 2) C dL_law_230 (by decide) ?_
  refine zl_iadd C dL_law_231 ?_
  refine zl_sld C hX hb hB dL_law_232 (hin 2 (by decide)) ?_
  refine zl_callV (o := 0) (As := [.int (xs (nI i + nI 1).toNatClampNeg), .int (xs (nI i + nI 2).toNatClampNeg)]) (rest := []) (fr' := fX11_timber) (lo' := lX11_timber) (bc' := 0) (bs' := 0) C dL_law_233 zs_L_23 zi_X11_timber (fun H hW _ => zRec_std zcl_11 (hS.has (a := 0) rfl rfl) hW) rfl rfl (Nat.le_of_ble_eq_true rfl) (Nat.le_of_ble_eq_true rfl) (Nat.le_of_ble_eq_true rfl) (show _ ≤ 600000 by omega) (show _ ≤ 7302250 by omega) ?_
  refine ZC.mono (fun w S' I' L' ⟨r, ew, k2⟩ => ?_) (sp_timber hI g)
  subst ew
  show ZL G p l e room_1 s m args below meth c Z 236 [.ref b, zo G 0, zo G 84, .int (nI i)] [.int r] S' I' L' (zN S + 0) (σ + 0) _
  refine zl_aload_n C dL_law_236 rfl rfl ?_
  refine zl_aload_n C dL_law_237 rfl rfl ?_
  refine zl_iload_n C dL_law_238 rfl rfl ?_
  refine zl_iconst (v := nI 1) C dL_law_239 (by decide) ?_
  refine zl_iadd C dL_law_240 ?_
  refine zl_sld C hX hb hB dL_law_241 (hin 1 (by decide)) ?_
  refine zl_aload_n C dL_law_242 rfl rfl ?_
  refine zl_iload_n C dL_law_243 rfl rfl ?_
  refine zl_iconst (v := nI 2) C dL_law_244 (by decide) ?_
  refine zl_iadd C dL_law_245 ?_
  refine zl_sld C hX hb hB dL_law_246 (hin 2 (by decide)) ?_
  refine zl_callV (o := 84) (As := [.int (xs (nI i + nI 1).toNatClampNeg), .int (xs (nI i + nI 2).toNatClampNeg)]) (rest := [.int r]) (fr' := fX12_timber) (lo' := lX12_timber) (bc' := 0) (bs' := 0) C dL_law_247 zs_L_27 zi_X12_timber (fun H' hW ⟨H, h1, _, h3⟩ => zRec_sm h1.2.1 h3) rfl rfl (Nat.le_of_ble_eq_true rfl) (Nat.le_of_ble_eq_true rfl) (Nat.le_of_ble_eq_true rfl) (show _ ≤ 600000 by omega) (show _ ≤ 7302250 by omega) ?_
  refine ZC.mono (fun w S'' I'' L'' ⟨ew, σ', q1, q2, q3⟩ => ?_) k2
  subst ew
  show ZL G p l e room_1 s m args below meth c Z 250 [.ref b, zo G 0, zo G 84, .int (nI i)] [.int r, .int r] S'' I'' L'' (zN S + 0 + 0) (σ + 0 + 0) _
  refine zl_iceq (tgt := 1280) C dL_law_250 (by decide) (fun _ => ?_) (fun no => absurd rfl no)
  exact zl_nar hB (fun H hW hp => p2_use q1 hW hp) (next S'' I'' L'' σ' q2 q3)
theorem lc_3 {G : Gp} {p : Program} {l : Launch} {e : Env} {s : State} {m : MethodId} {args : Array Value} {below : List Frame} {meth : Method} {c : Code} {Z : State → Prop} {b Ln i σ : Nat} {xs : Nat → Int32} {S : zSh} {I : zFI} {L : zFL} (C : ZCx G (zLaw meth.name) 13 510 p room_1 s m args meth c) (hX : va_X b Ln xs s s.heap) (hb : b < gB G) (hB : gB G = s.heap.size) (hi : i + 6 ≤ Ln) (hLn : Ln ≤ 3072) (hI : zIn S I L) (g : zBg S σ) (next : ∀ (S' : zSh) (I' : zFI) (L' : zFL) (σ' : Nat), zIn S' I' L' → zBg S' σ' → ZL G p l e room_1 s m args below meth c Z 1280 [.ref b, zo G 0, zo G 84, .int (nI i)] [] S' I' L' (zN S') σ' (zP0 G s S' σ')) : ZL G p l e room_1 s m args below meth c Z 255 [.ref b, zo G 0, zo G 84, .int (nI i)] [] S I L (zN S) σ (zP0 G s S σ) := by
  have hin := sc_in hi hLn
  have hS := hI.std
  have hr := bg_room g
  refine zl_aload_n C dL_law_255 rfl rfl ?_
  refine zl_aload_n C dL_law_256 rfl rfl ?_
  refine zl_iload_n C dL_law_257 rfl rfl ?_
  refine zl_iconst (v := nI 1) C dL_law_258 (by decide) ?_
  refine zl_iadd C dL_law_259 ?_
  refine zl_sld C hX hb hB dL_law_260 (hin 1 (by decide)) ?_
  refine zl_aload_n C dL_law_261 rfl rfl ?_
  refine zl_iload_n C dL_law_262 rfl rfl ?_
  refine zl_iconst (v := nI 2) C dL_law_263 (by decide) ?_
  refine zl_iadd C dL_law_264 ?_
  refine zl_sld C hX hb hB dL_law_265 (hin 2 (by decide)) ?_
  refine zl_aload_n C dL_law_266 rfl rfl ?_
  refine zl_iload_n C dL_law_267 rfl rfl ?_
  refine zl_iconst (v := nI 3) C dL_law_268 (by decide) ?_
  refine zl_iadd C dL_law_269 ?_
  refine zl_sld C hX hb hB dL_law_270 (hin 3 (by decide)) ?_
  refine zl_aload_n C dL_law_271 rfl rfl ?_
  refine zl_iload_n C dL_law_272 rfl rfl ?_
  refine zl_iconst (v := nI 4) C dL_law_273 (by decide) ?_
  refine zl_iadd C dL_law_274 ?_
  refine zl_sld C hX hb hB dL_law_275 (hin 4 (by decide)) ?_
  refine zl_callV (o := 0) (As := [.int (xs (nI i + nI 1).toNatClampNeg), .int (xs (nI i + nI 2).toNatClampNeg), .int (xs (nI i + nI 3).toNatClampNeg), .int (xs (nI i + nI 4).toNatClampNeg)]) (rest := []) (fr' := fX11_joint) (lo' := lX11_joint) (bc' := 0) (bs' := 0) C dL_law_276 zs_L_28 zi_X11_joint (fun H hW _ => zRec_std zcl_11 (hS.has (a := 0) rfl rfl) hW) rfl rfl (Nat.le_of_ble_eq_true rfl) (Nat.le_of_ble_eq_true rfl) (Nat.le_of_ble_eq_true rfl) (show _ ≤ 600000 by omega) (show _ ≤ 7302250 by omega) ?_
  refine ZC.mono (fun w S' I' L' ⟨r, ew, k2⟩ => ?_) (sp_joint hI g)
  subst ew
  show ZL G p l e room_1 s m args below meth c Z 279 [.ref b, zo G 0, zo G 84, .int (nI i)] [.int r] S' I' L' (zN S + 0) (σ + 0) _
  refine zl_aload_n C dL_law_279 rfl rfl ?_
  refine zl_aload_n C dL_law_280 rfl rfl ?_
  refine zl_iload_n C dL_law_281 rfl rfl ?_
  refine zl_iconst (v := nI 1) C dL_law_282 (by decide) ?_
  refine zl_iadd C dL_law_283 ?_
  refine zl_sld C hX hb hB dL_law_284 (hin 1 (by decide)) ?_
  refine zl_aload_n C dL_law_285 rfl rfl ?_
  refine zl_iload_n C dL_law_286 rfl rfl ?_
  refine zl_iconst (v := nI 2) C dL_law_287 (by decide) ?_
  refine zl_iadd C dL_law_288 ?_
  refine zl_sld C hX hb hB dL_law_289 (hin 2 (by decide)) ?_
  refine zl_aload_n C dL_law_290 rfl rfl ?_
  refine zl_iload_n C dL_law_291 rfl rfl ?_
  refine zl_iconst (v := nI 3) C dL_law_292 (by decide) ?_
  refine zl_iadd C dL_law_293 ?_
  refine zl_sld C hX hb hB dL_law_294 (hin 3 (by decide)) ?_
  refine zl_aload_n C dL_law_295 rfl rfl ?_
  refine zl_iload_n C dL_law_296 rfl rfl ?_
  refine zl_iconst (v := nI 4) C dL_law_297 (by decide) ?_
  refine zl_iadd C dL_law_298 ?_
  refine zl_sld C hX hb hB dL_law_299 (hin 4 (by decide)) ?_
  refine zl_callV (o := 84) (As := [.int (xs (nI i + nI 1).toNatClampNeg), .int (xs (nI i + nI 2).toNatClampNeg), .int (xs (nI i + nI 3).toNatClampNeg), .int (xs (nI i + nI 4).toNatClampNeg)]) (rest := [.int r]) (fr' := fX12_joint) (lo' := lX12_joint) (bc' := 0) (bs' := 0) C dL_law_300 zs_L_32 zi_X12_joint (fun H' hW ⟨H, h1, _, h3⟩ => zRec_sm h1.2.1 h3) rfl rfl (Nat.le_of_ble_eq_true rfl) (Nat.le_of_ble_eq_true rfl) (Nat.le_of_ble_eq_true rfl) (show _ ≤ 600000 by omega) (show _ ≤ 7302250 by omega) ?_
  refine ZC.mono (fun w S'' I'' L'' ⟨ew, σ', q1, q2, q3⟩ => ?_) k2
  subst ew
  show ZL G p l e room_1 s m args below meth c Z 303 [.ref b, zo G 0, zo G 84, .int (nI i)] [.int r, .int r] S'' I'' L'' (zN S + 0 + 0) (σ + 0 + 0) _
  refine zl_iceq (tgt := 1280) C dL_law_303 (by decide) (fun _ => ?_) (fun no => absurd rfl no)
  exact zl_nar hB (fun H hW hp => p2_use q1 hW hp) (next S'' I'' L'' σ' q2 q3)
theorem lc_4 {G : Gp} {p : Program} {l : Launch} {e : Env} {s : State} {m : MethodId} {args : Array Value} {below : List Frame} {meth : Method} {c : Code} {Z : State → Prop} {b Ln i σ : Nat} {xs : Nat → Int32} {S : zSh} {I : zFI} {L : zFL} (C : ZCx G (zLaw meth.name) 13 510 p room_1 s m args meth c) (hX : va_X b Ln xs s s.heap) (hb : b < gB G) (hB : gB G = s.heap.size) (hi : i + 6 ≤ Ln) (hLn : Ln ≤ 3072) (hI : zIn S I L) (g : zBg S σ) (next : ∀ (S' : zSh) (I' : zFI) (L' : zFL) (σ' : Nat), zIn S' I' L' → zBg S' σ' → ZL G p l e room_1 s m args below meth c Z 1280 [.ref b, zo G 0, zo G 84, .int (nI i)] [] S' I' L' (zN S') σ' (zP0 G s S' σ')) : ZL G p l e room_1 s m args below meth c Z 308 [.ref b, zo G 0, zo G 84, .int (nI i)] [] S I L (zN S) σ (zP0 G s S σ) := by
  have hin := sc_in hi hLn
  have hS := hI.std
  have hr := bg_room g
  refine zl_aload_n C dL_law_308 rfl rfl ?_
  refine zl_aload_n C dL_law_309 rfl rfl ?_
  refine zl_iload_n C dL_law_310 rfl rfl ?_
  refine zl_iconst (v := nI 1) C dL_law_311 (by decide) ?_
  refine zl_iadd C dL_law_312 ?_
  refine zl_sld C hX hb hB dL_law_313 (hin 1 (by decide)) ?_
  refine zl_aload_n C dL_law_314 rfl rfl ?_
  refine zl_iload_n C dL_law_315 rfl rfl ?_
  refine zl_iconst (v := nI 2) C dL_law_316 (by decide) ?_
  refine zl_iadd C dL_law_317 ?_
  refine zl_sld C hX hb hB dL_law_318 (hin 2 (by decide)) ?_
  refine zl_aload_n C dL_law_319 rfl rfl ?_
  refine zl_iload_n C dL_law_320 rfl rfl ?_
  refine zl_iconst (v := nI 3) C dL_law_321 (by decide) ?_
  refine zl_iadd C dL_law_322 ?_
  refine zl_sld C hX hb hB dL_law_323 (hin 3 (by decide)) ?_
  refine zl_aload_n C dL_law_324 rfl rfl ?_
  refine zl_iload_n C dL_law_325 rfl rfl ?_
  refine zl_iconst (v := nI 4) C dL_law_326 (by decide) ?_
  refine zl_iadd C dL_law_327 ?_
  refine zl_sld C hX hb hB dL_law_328 (hin 4 (by decide)) ?_
  refine zl_aload_n C dL_law_329 rfl rfl ?_
  refine zl_iload_n C dL_law_330 rfl rfl ?_
  refine zl_iconst (v := nI 5) C dL_law_331 (by decide) ?_
  refine zl_iadd C dL_law_332 ?_
  refine zl_sld C hX hb hB dL_law_333 (hin 5 (by decide)) ?_
  refine zl_callV (o := 0) (As := [.int (xs (nI i + nI 1).toNatClampNeg), .int (xs (nI i + nI 2).toNatClampNeg), .int (xs (nI i + nI 3).toNatClampNeg), .int (xs (nI i + nI 4).toNatClampNeg), .int (xs (nI i + nI 5).toNatClampNeg)]) (rest := []) (fr' := fX11_feed) (lo' := lX11_feed) (bc' := 0) (bs' := 0) C dL_law_334 zs_L_33 zi_X11_feed (fun H hW _ => zRec_std zcl_11 (hS.has (a := 0) rfl rfl) hW) rfl rfl (Nat.le_of_ble_eq_true rfl) (Nat.le_of_ble_eq_true rfl) (Nat.le_of_ble_eq_true rfl) (show _ ≤ 600000 by omega) (show _ ≤ 7302250 by omega) ?_
  refine ZC.mono (fun w S' I' L' ⟨r, ew, k2⟩ => ?_) (sp_feed hI g)
  subst ew
  show ZL G p l e room_1 s m args below meth c Z 337 [.ref b, zo G 0, zo G 84, .int (nI i)] [.int r] S' I' L' (zN S + 0) (σ + 0) _
  refine zl_aload_n C dL_law_337 rfl rfl ?_
  refine zl_aload_n C dL_law_338 rfl rfl ?_
  refine zl_iload_n C dL_law_339 rfl rfl ?_
  refine zl_iconst (v := nI 1) C dL_law_340 (by decide) ?_
  refine zl_iadd C dL_law_341 ?_
  refine zl_sld C hX hb hB dL_law_342 (hin 1 (by decide)) ?_
  refine zl_aload_n C dL_law_343 rfl rfl ?_
  refine zl_iload_n C dL_law_344 rfl rfl ?_
  refine zl_iconst (v := nI 2) C dL_law_345 (by decide) ?_
  refine zl_iadd C dL_law_346 ?_
  refine zl_sld C hX hb hB dL_law_347 (hin 2 (by decide)) ?_
  refine zl_aload_n C dL_law_348 rfl rfl ?_
  refine zl_iload_n C dL_law_349 rfl rfl ?_
  refine zl_iconst (v := nI 3) C dL_law_350 (by decide) ?_
  refine zl_iadd C dL_law_351 ?_
  refine zl_sld C hX hb hB dL_law_352 (hin 3 (by decide)) ?_
  refine zl_aload_n C dL_law_353 rfl rfl ?_
  refine zl_iload_n C dL_law_354 rfl rfl ?_
  refine zl_iconst (v := nI 4) C dL_law_355 (by decide) ?_
  refine zl_iadd C dL_law_356 ?_
  refine zl_sld C hX hb hB dL_law_357 (hin 4 (by decide)) ?_
  refine zl_aload_n C dL_law_358 rfl rfl ?_
  refine zl_iload_n C dL_law_359 rfl rfl ?_
  refine zl_iconst (v := nI 5) C dL_law_360 (by decide) ?_
  refine zl_iadd C dL_law_361 ?_
  refine zl_sld C hX hb hB dL_law_362 (hin 5 (by decide)) ?_
  refine zl_callV (o := 84) (As := [.int (xs (nI i + nI 1).toNatClampNeg), .int (xs (nI i + nI 2).toNatClampNeg), .int (xs (nI i + nI 3).toNatClampNeg), .int (xs (nI i + nI 4).toNatClampNeg), .int (xs (nI i + nI 5).toNatClampNeg)]) (rest := [.int r]) (fr' := fX12_feed) (lo' := lX12_feed) (bc' := 0) (bs' := 0) C dL_law_363 zs_L_37 zi_X12_feed (fun H' hW ⟨H, h1, _, h3⟩ => zRec_sm h1.2.1 h3) rfl rfl (Nat.le_of_ble_eq_true rfl) (Nat.le_of_ble_eq_true rfl) (Nat.le_of_ble_eq_true rfl) (show _ ≤ 600000 by omega) (show _ ≤ 7302250 by omega) ?_
  refine ZC.mono (fun w S'' I'' L'' ⟨ew, σ', q1, q2, q3⟩ => ?_) k2
  subst ew
  show ZL G p l e room_1 s m args below meth c Z 366 [.ref b, zo G 0, zo G 84, .int (nI i)] [.int r, .int r] S'' I'' L'' (zN S + 0 + 0) (σ + 0 + 0) _
  refine zl_iceq (tgt := 1280) C dL_law_366 (by decide) (fun _ => ?_) (fun no => absurd rfl no)
  exact zl_nar hB (fun H hW hp => p2_use q1 hW hp) (next S'' I'' L'' σ' q2 q3)
theorem lc_5 {G : Gp} {p : Program} {l : Launch} {e : Env} {s : State} {m : MethodId} {args : Array Value} {below : List Frame} {meth : Method} {c : Code} {Z : State → Prop} {b Ln i σ : Nat} {xs : Nat → Int32} {S : zSh} {I : zFI} {L : zFL} (C : ZCx G (zLaw meth.name) 13 510 p room_1 s m args meth c) (hX : va_X b Ln xs s s.heap) (hb : b < gB G) (hB : gB G = s.heap.size) (hi : i + 6 ≤ Ln) (hLn : Ln ≤ 3072) (hI : zIn S I L) (g : zBg S σ) (next : ∀ (S' : zSh) (I' : zFI) (L' : zFL) (σ' : Nat), zIn S' I' L' → zBg S' σ' → ZL G p l e room_1 s m args below meth c Z 1280 [.ref b, zo G 0, zo G 84, .int (nI i)] [] S' I' L' (zN S') σ' (zP0 G s S' σ')) : ZL G p l e room_1 s m args below meth c Z 371 [.ref b, zo G 0, zo G 84, .int (nI i)] [] S I L (zN S) σ (zP0 G s S σ) := by
  have hin := sc_in hi hLn
  have hS := hI.std
  have hr := bg_room g
  refine zl_aload_n C dL_law_371 rfl rfl ?_
  refine zl_aload_n C dL_law_372 rfl rfl ?_
  refine zl_iload_n C dL_law_373 rfl rfl ?_
  refine zl_iconst (v := nI 1) C dL_law_374 (by decide) ?_
  refine zl_iadd C dL_law_375 ?_
  refine zl_sld C hX hb hB dL_law_376 (hin 1 (by decide)) ?_
  refine zl_callV (o := 0) (As := [.int (xs (nI i + nI 1).toNatClampNeg)]) (rest := []) (fr' := fX11_end) (lo' := lX11_end) (bc' := 0) (bs' := 0) C dL_law_377 zs_L_38 zi_X11_end (fun H hW _ => zRec_std zcl_11 (hS.has (a := 0) rfl rfl) hW) rfl rfl (Nat.le_of_ble_eq_true rfl) (Nat.le_of_ble_eq_true rfl) (Nat.le_of_ble_eq_true rfl) (show _ ≤ 600000 by omega) (show _ ≤ 7302250 by omega) ?_
  refine ZC.mono (fun w S' I' L' ⟨r, ew, k2⟩ => ?_) (sp_end hI g)
  subst ew
  show ZL G p l e room_1 s m args below meth c Z 380 [.ref b, zo G 0, zo G 84, .int (nI i)] [.int r] S' I' L' (zN S + 0) (σ + 0) _
  refine zl_aload_n C dL_law_380 rfl rfl ?_
  refine zl_aload_n C dL_law_381 rfl rfl ?_
  refine zl_iload_n C dL_law_382 rfl rfl ?_
  refine zl_iconst (v := nI 1) C dL_law_383 (by decide) ?_
  refine zl_iadd C dL_law_384 ?_
  refine zl_sld C hX hb hB dL_law_385 (hin 1 (by decide)) ?_
  refine zl_callV (o := 84) (As := [.int (xs (nI i + nI 1).toNatClampNeg)]) (rest := [.int r]) (fr' := fX12_end) (lo' := lX12_end) (bc' := 0) (bs' := 0) C dL_law_386 zs_L_41 zi_X12_end (fun H' hW ⟨H, h1, _, h3⟩ => zRec_sm h1.2.1 h3) rfl rfl (Nat.le_of_ble_eq_true rfl) (Nat.le_of_ble_eq_true rfl) (Nat.le_of_ble_eq_true rfl) (show _ ≤ 600000 by omega) (show _ ≤ 7302250 by omega) ?_
  refine ZC.mono (fun w S'' I'' L'' ⟨ew, σ', q1, q2, q3⟩ => ?_) k2
  subst ew
  show ZL G p l e room_1 s m args below meth c Z 389 [.ref b, zo G 0, zo G 84, .int (nI i)] [.int r, .int r] S'' I'' L'' (zN S + 0 + 0) (σ + 0 + 0) _
  refine zl_iceq (tgt := 1280) C dL_law_389 (by decide) (fun _ => ?_) (fun no => absurd rfl no)
  exact zl_nar hB (fun H hW hp => p2_use q1 hW hp) (next S'' I'' L'' σ' q2 q3)
theorem lc_6 {G : Gp} {p : Program} {l : Launch} {e : Env} {s : State} {m : MethodId} {args : Array Value} {below : List Frame} {meth : Method} {c : Code} {Z : State → Prop} {b Ln i σ : Nat} {xs : Nat → Int32} {S : zSh} {I : zFI} {L : zFL} (C : ZCx G (zLaw meth.name) 13 510 p room_1 s m args meth c) (hX : va_X b Ln xs s s.heap) (hb : b < gB G) (hB : gB G = s.heap.size) (hi : i + 6 ≤ Ln) (hLn : Ln ≤ 3072) (hI : zIn S I L) (g : zBg S σ) (next : ∀ (S' : zSh) (I' : zFI) (L' : zFL) (σ' : Nat), zIn S' I' L' → zBg S' σ' → ZL G p l e room_1 s m args below meth c Z 1280 [.ref b, zo G 0, zo G 84, .int (nI i)] [] S' I' L' (zN S') σ' (zP0 G s S' σ')) : ZL G p l e room_1 s m args below meth c Z 394 [.ref b, zo G 0, zo G 84, .int (nI i)] [] S I L (zN S) σ (zP0 G s S σ) := by
  have hin := sc_in hi hLn
  have hS := hI.std
  have hr := bg_room g
  refine zl_aload_n C dL_law_394 rfl rfl ?_
  refine zl_aload_n C dL_law_395 rfl rfl ?_
  refine zl_iload_n C dL_law_396 rfl rfl ?_
  refine zl_iconst (v := nI 1) C dL_law_397 (by decide) ?_
  refine zl_iadd C dL_law_398 ?_
  refine zl_sld C hX hb hB dL_law_399 (hin 1 (by decide)) ?_
  refine zl_callV (o := 0) (As := [.int (xs (nI i + nI 1).toNatClampNeg)]) (rest := []) (fr' := fX11_mark) (lo' := lX11_mark) (bc' := 0) (bs' := 0) C dL_law_400 zs_L_42 zi_X11_mark (fun H hW _ => zRec_std zcl_11 (hS.has (a := 0) rfl rfl) hW) rfl rfl (Nat.le_of_ble_eq_true rfl) (Nat.le_of_ble_eq_true rfl) (Nat.le_of_ble_eq_true rfl) (show _ ≤ 600000 by omega) (show _ ≤ 7302250 by omega) ?_
  refine ZC.mono (fun w S' I' L' ⟨r, ew, k2⟩ => ?_) (sp_mark hI g)
  subst ew
  show ZL G p l e room_1 s m args below meth c Z 403 [.ref b, zo G 0, zo G 84, .int (nI i)] [.int r] S' I' L' (zN S + 0) (σ + 0) _
  refine zl_aload_n C dL_law_403 rfl rfl ?_
  refine zl_aload_n C dL_law_404 rfl rfl ?_
  refine zl_iload_n C dL_law_405 rfl rfl ?_
  refine zl_iconst (v := nI 1) C dL_law_406 (by decide) ?_
  refine zl_iadd C dL_law_407 ?_
  refine zl_sld C hX hb hB dL_law_408 (hin 1 (by decide)) ?_
  refine zl_callV (o := 84) (As := [.int (xs (nI i + nI 1).toNatClampNeg)]) (rest := [.int r]) (fr' := fX12_mark) (lo' := lX12_mark) (bc' := 0) (bs' := 0) C dL_law_409 zs_L_45 zi_X12_mark (fun H' hW ⟨H, h1, _, h3⟩ => zRec_sm h1.2.1 h3) rfl rfl (Nat.le_of_ble_eq_true rfl) (Nat.le_of_ble_eq_true rfl) (Nat.le_of_ble_eq_true rfl) (show _ ≤ 600000 by omega) (show _ ≤ 7302250 by omega) ?_
  refine ZC.mono (fun w S'' I'' L'' ⟨ew, σ', q1, q2, q3⟩ => ?_) k2
  subst ew
  show ZL G p l e room_1 s m args below meth c Z 412 [.ref b, zo G 0, zo G 84, .int (nI i)] [.int r, .int r] S'' I'' L'' (zN S + 0 + 0) (σ + 0 + 0) _
  refine zl_iceq (tgt := 1280) C dL_law_412 (by decide) (fun _ => ?_) (fun no => absurd rfl no)
  exact zl_nar hB (fun H hW hp => p2_use q1 hW hp) (next S'' I'' L'' σ' q2 q3)
theorem lc_7 {G : Gp} {p : Program} {l : Launch} {e : Env} {s : State} {m : MethodId} {args : Array Value} {below : List Frame} {meth : Method} {c : Code} {Z : State → Prop} {b Ln i σ : Nat} {xs : Nat → Int32} {S : zSh} {I : zFI} {L : zFL} (C : ZCx G (zLaw meth.name) 13 510 p room_1 s m args meth c) (hX : va_X b Ln xs s s.heap) (hb : b < gB G) (hB : gB G = s.heap.size) (hi : i + 6 ≤ Ln) (hLn : Ln ≤ 3072) (hI : zIn S I L) (g : zBg S σ) (next : ∀ (S' : zSh) (I' : zFI) (L' : zFL) (σ' : Nat), zIn S' I' L' → zBg S' σ' → ZL G p l e room_1 s m args below meth c Z 1280 [.ref b, zo G 0, zo G 84, .int (nI i)] [] S' I' L' (zN S') σ' (zP0 G s S' σ')) : ZL G p l e room_1 s m args below meth c Z 417 [.ref b, zo G 0, zo G 84, .int (nI i)] [] S I L (zN S) σ (zP0 G s S σ) := by
  have hin := sc_in hi hLn
  have hS := hI.std
  have hr := bg_room g
  refine zl_aload_n C dL_law_417 rfl rfl ?_
  refine zl_aload_n C dL_law_418 rfl rfl ?_
  refine zl_iload_n C dL_law_419 rfl rfl ?_
  refine zl_iconst (v := nI 1) C dL_law_420 (by decide) ?_
  refine zl_iadd C dL_law_421 ?_
  refine zl_sld C hX hb hB dL_law_422 (hin 1 (by decide)) ?_
  refine zl_callV (o := 0) (As := [.int (xs (nI i + nI 1).toNatClampNeg)]) (rest := []) (fr' := fX11_custom) (lo' := lX11_custom) (bc' := 0) (bs' := 0) C dL_law_423 zs_L_46 zi_X11_custom (fun H hW _ => zRec_std zcl_11 (hS.has (a := 0) rfl rfl) hW) rfl rfl (Nat.le_of_ble_eq_true rfl) (Nat.le_of_ble_eq_true rfl) (Nat.le_of_ble_eq_true rfl) (show _ ≤ 600000 by omega) (show _ ≤ 7302250 by omega) ?_
  refine ZC.mono (fun w S' I' L' ⟨r, ew, k2⟩ => ?_) (sp_custom hI g)
  subst ew
  show ZL G p l e room_1 s m args below meth c Z 426 [.ref b, zo G 0, zo G 84, .int (nI i)] [.int r] S' I' L' (zN S + 0) (σ + 0) _
  refine zl_aload_n C dL_law_426 rfl rfl ?_
  refine zl_aload_n C dL_law_427 rfl rfl ?_
  refine zl_iload_n C dL_law_428 rfl rfl ?_
  refine zl_iconst (v := nI 1) C dL_law_429 (by decide) ?_
  refine zl_iadd C dL_law_430 ?_
  refine zl_sld C hX hb hB dL_law_431 (hin 1 (by decide)) ?_
  refine zl_callV (o := 84) (As := [.int (xs (nI i + nI 1).toNatClampNeg)]) (rest := [.int r]) (fr' := fX12_custom) (lo' := lX12_custom) (bc' := 0) (bs' := 0) C dL_law_432 zs_L_49 zi_X12_custom (fun H' hW ⟨H, h1, _, h3⟩ => zRec_sm h1.2.1 h3) rfl rfl (Nat.le_of_ble_eq_true rfl) (Nat.le_of_ble_eq_true rfl) (Nat.le_of_ble_eq_true rfl) (show _ ≤ 600000 by omega) (show _ ≤ 7302250 by omega) ?_
  refine ZC.mono (fun w S'' I'' L'' ⟨ew, σ', q1, q2, q3⟩ => ?_) k2
  subst ew
  show ZL G p l e room_1 s m args below meth c Z 435 [.ref b, zo G 0, zo G 84, .int (nI i)] [.int r, .int r] S'' I'' L'' (zN S + 0 + 0) (σ + 0 + 0) _
  refine zl_iceq (tgt := 1280) C dL_law_435 (by decide) (fun _ => ?_) (fun no => absurd rfl no)
  exact zl_nar hB (fun H hW hp => p2_use q1 hW hp) (next S'' I'' L'' σ' q2 q3)
theorem lc_8 {G : Gp} {p : Program} {l : Launch} {e : Env} {s : State} {m : MethodId} {args : Array Value} {below : List Frame} {meth : Method} {c : Code} {Z : State → Prop} {b Ln i σ : Nat} {xs : Nat → Int32} {S : zSh} {I : zFI} {L : zFL} (C : ZCx G (zLaw meth.name) 13 510 p room_1 s m args meth c) (hX : va_X b Ln xs s s.heap) (hb : b < gB G) (hB : gB G = s.heap.size) (hi : i + 6 ≤ Ln) (hLn : Ln ≤ 3072) (hI : zIn S I L) (g : zBg S σ) (next : ∀ (S' : zSh) (I' : zFI) (L' : zFL) (σ' : Nat), zIn S' I' L' → zBg S' σ' → ZL G p l e room_1 s m args below meth c Z 1280 [.ref b, zo G 0, zo G 84, .int (nI i)] [] S' I' L' (zN S') σ' (zP0 G s S' σ')) : ZL G p l e room_1 s m args below meth c Z 440 [.ref b, zo G 0, zo G 84, .int (nI i)] [] S I L (zN S) σ (zP0 G s S σ) := by
  have hin := sc_in hi hLn
  have hS := hI.std
  have hr := bg_room g
  refine zl_aload_n C dL_law_440 rfl rfl ?_
  refine zl_aload_n C dL_law_441 rfl rfl ?_
  refine zl_iload_n C dL_law_442 rfl rfl ?_
  refine zl_iconst (v := nI 1) C dL_law_443 (by decide) ?_
  refine zl_iadd C dL_law_444 ?_
  refine zl_sld C hX hb hB dL_law_445 (hin 1 (by decide)) ?_
  refine zl_callV (o := 0) (As := [.int (xs (nI i + nI 1).toNatClampNeg)]) (rest := []) (fr' := fX11_fault) (lo' := lX11_fault) (bc' := 0) (bs' := 0) C dL_law_446 zs_L_50 zi_X11_fault (fun H hW _ => zRec_std zcl_11 (hS.has (a := 0) rfl rfl) hW) rfl rfl (Nat.le_of_ble_eq_true rfl) (Nat.le_of_ble_eq_true rfl) (Nat.le_of_ble_eq_true rfl) (show _ ≤ 600000 by omega) (show _ ≤ 7302250 by omega) ?_
  refine ZC.mono (fun w S' I' L' ⟨r, ew, k2⟩ => ?_) (sp_fault hI g)
  subst ew
  show ZL G p l e room_1 s m args below meth c Z 449 [.ref b, zo G 0, zo G 84, .int (nI i)] [.int r] S' I' L' (zN S + 0) (σ + 0) _
  refine zl_aload_n C dL_law_449 rfl rfl ?_
  refine zl_aload_n C dL_law_450 rfl rfl ?_
  refine zl_iload_n C dL_law_451 rfl rfl ?_
  refine zl_iconst (v := nI 1) C dL_law_452 (by decide) ?_
  refine zl_iadd C dL_law_453 ?_
  refine zl_sld C hX hb hB dL_law_454 (hin 1 (by decide)) ?_
  refine zl_callV (o := 84) (As := [.int (xs (nI i + nI 1).toNatClampNeg)]) (rest := [.int r]) (fr' := fX12_fault) (lo' := lX12_fault) (bc' := 0) (bs' := 0) C dL_law_455 zs_L_53 zi_X12_fault (fun H' hW ⟨H, h1, _, h3⟩ => zRec_sm h1.2.1 h3) rfl rfl (Nat.le_of_ble_eq_true rfl) (Nat.le_of_ble_eq_true rfl) (Nat.le_of_ble_eq_true rfl) (show _ ≤ 600000 by omega) (show _ ≤ 7302250 by omega) ?_
  refine ZC.mono (fun w S'' I'' L'' ⟨ew, σ', q1, q2, q3⟩ => ?_) k2
  subst ew
  show ZL G p l e room_1 s m args below meth c Z 458 [.ref b, zo G 0, zo G 84, .int (nI i)] [.int r, .int r] S'' I'' L'' (zN S + 0 + 0) (σ + 0 + 0) _
  refine zl_iceq (tgt := 1280) C dL_law_458 (by decide) (fun _ => ?_) (fun no => absurd rfl no)
  exact zl_nar hB (fun H hW hp => p2_use q1 hW hp) (next S'' I'' L'' σ' q2 q3)
theorem lc_9 {G : Gp} {p : Program} {l : Launch} {e : Env} {s : State} {m : MethodId} {args : Array Value} {below : List Frame} {meth : Method} {c : Code} {Z : State → Prop} {b Ln i σ : Nat} {xs : Nat → Int32} {S : zSh} {I : zFI} {L : zFL} (C : ZCx G (zLaw meth.name) 13 510 p room_1 s m args meth c) (hX : va_X b Ln xs s s.heap) (hb : b < gB G) (hB : gB G = s.heap.size) (hi : i + 6 ≤ Ln) (hLn : Ln ≤ 3072) (hI : zIn S I L) (g : zBg S σ) (next : ∀ (S' : zSh) (I' : zFI) (L' : zFL) (σ' : Nat), zIn S' I' L' → zBg S' σ' → ZL G p l e room_1 s m args below meth c Z 1280 [.ref b, zo G 0, zo G 84, .int (nI i)] [] S' I' L' (zN S') σ' (zP0 G s S' σ')) : ZL G p l e room_1 s m args below meth c Z 463 [.ref b, zo G 0, zo G 84, .int (nI i)] [] S I L (zN S) σ (zP0 G s S σ) := by
  have hin := sc_in hi hLn
  have hS := hI.std
  have hr := bg_room g
  refine zl_aload_n C dL_law_463 rfl rfl ?_
  refine zl_aload_n C dL_law_464 rfl rfl ?_
  refine zl_iload_n C dL_law_465 rfl rfl ?_
  refine zl_iconst (v := nI 1) C dL_law_466 (by decide) ?_
  refine zl_iadd C dL_law_467 ?_
  refine zl_sld C hX hb hB dL_law_468 (hin 1 (by decide)) ?_
  refine zl_callV (o := 0) (As := [.int (xs (nI i + nI 1).toNatClampNeg)]) (rest := []) (fr' := fX11_look) (lo' := lX11_look) (bc' := 0) (bs' := 0) C dL_law_469 zs_L_54 zi_X11_look (fun H hW _ => zRec_std zcl_11 (hS.has (a := 0) rfl rfl) hW) rfl rfl (Nat.le_of_ble_eq_true rfl) (Nat.le_of_ble_eq_true rfl) (Nat.le_of_ble_eq_true rfl) (show _ ≤ 600000 by omega) (show _ ≤ 7302250 by omega) ?_
  refine ZC.mono (fun w S' I' L' ⟨r, ew, k2⟩ => ?_) (sp_look hI g)
  subst ew
  show ZL G p l e room_1 s m args below meth c Z 472 [.ref b, zo G 0, zo G 84, .int (nI i)] [.int r] S' I' L' (zN S + 0) (σ + 0) _
  refine zl_aload_n C dL_law_472 rfl rfl ?_
  refine zl_aload_n C dL_law_473 rfl rfl ?_
  refine zl_iload_n C dL_law_474 rfl rfl ?_
  refine zl_iconst (v := nI 1) C dL_law_475 (by decide) ?_
  refine zl_iadd C dL_law_476 ?_
  refine zl_sld C hX hb hB dL_law_477 (hin 1 (by decide)) ?_
  refine zl_callV (o := 84) (As := [.int (xs (nI i + nI 1).toNatClampNeg)]) (rest := [.int r]) (fr' := fX12_look) (lo' := lX12_look) (bc' := 0) (bs' := 0) C dL_law_478 zs_L_57 zi_X12_look (fun H' hW ⟨H, h1, _, h3⟩ => zRec_sm h1.2.1 h3) rfl rfl (Nat.le_of_ble_eq_true rfl) (Nat.le_of_ble_eq_true rfl) (Nat.le_of_ble_eq_true rfl) (show _ ≤ 600000 by omega) (show _ ≤ 7302250 by omega) ?_
  refine ZC.mono (fun w S'' I'' L'' ⟨ew, σ', q1, q2, q3⟩ => ?_) k2
  subst ew
  show ZL G p l e room_1 s m args below meth c Z 481 [.ref b, zo G 0, zo G 84, .int (nI i)] [.int r, .int r] S'' I'' L'' (zN S + 0 + 0) (σ + 0 + 0) _
  refine zl_iceq (tgt := 1280) C dL_law_481 (by decide) (fun _ => ?_) (fun no => absurd rfl no)
  exact zl_nar hB (fun H hW hp => p2_use q1 hW hp) (next S'' I'' L'' σ' q2 q3)
theorem lc_10 {G : Gp} {p : Program} {l : Launch} {e : Env} {s : State} {m : MethodId} {args : Array Value} {below : List Frame} {meth : Method} {c : Code} {Z : State → Prop} {b Ln i σ : Nat} {xs : Nat → Int32} {S : zSh} {I : zFI} {L : zFL} (C : ZCx G (zLaw meth.name) 13 510 p room_1 s m args meth c) (hX : va_X b Ln xs s s.heap) (hb : b < gB G) (hB : gB G = s.heap.size) (hi : i + 6 ≤ Ln) (hLn : Ln ≤ 3072) (hI : zIn S I L) (g : zBg S σ) (next : ∀ (S' : zSh) (I' : zFI) (L' : zFL) (σ' : Nat), zIn S' I' L' → zBg S' σ' → ZL G p l e room_1 s m args below meth c Z 1280 [.ref b, zo G 0, zo G 84, .int (nI i)] [] S' I' L' (zN S') σ' (zP0 G s S' σ')) : ZL G p l e room_1 s m args below meth c Z 486 [.ref b, zo G 0, zo G 84, .int (nI i)] [] S I L (zN S) σ (zP0 G s S σ) := by
  have hin := sc_in hi hLn
  have hS := hI.std
  have hr := bg_room g
  refine zl_aload_n C dL_law_486 rfl rfl ?_
  refine zl_aload_n C dL_law_487 rfl rfl ?_
  refine zl_iload_n C dL_law_488 rfl rfl ?_
  refine zl_iconst (v := nI 1) C dL_law_489 (by decide) ?_
  refine zl_iadd C dL_law_490 ?_
  refine zl_sld C hX hb hB dL_law_491 (hin 1 (by decide)) ?_
  refine zl_aload_n C dL_law_492 rfl rfl ?_
  refine zl_iload_n C dL_law_493 rfl rfl ?_
  refine zl_iconst (v := nI 2) C dL_law_494 (by decide) ?_
  refine zl_iadd C dL_law_495 ?_
  refine zl_sld C hX hb hB dL_law_496 (hin 2 (by decide)) ?_
  refine zl_callV (o := 0) (As := [.int (xs (nI i + nI 1).toNatClampNeg), .int (xs (nI i + nI 2).toNatClampNeg)]) (rest := []) (fr' := fX11_customs) (lo' := lX11_customs) (bc' := 0) (bs' := 0) C dL_law_497 zs_L_58 zi_X11_customs (fun H hW _ => zRec_std zcl_11 (hS.has (a := 0) rfl rfl) hW) rfl rfl (Nat.le_of_ble_eq_true rfl) (Nat.le_of_ble_eq_true rfl) (Nat.le_of_ble_eq_true rfl) (show _ ≤ 600000 by omega) (show _ ≤ 7302250 by omega) ?_
  refine ZC.mono (fun w S' I' L' ⟨r, ew, k2⟩ => ?_) (sp_customs hI g)
  subst ew
  show ZL G p l e room_1 s m args below meth c Z 500 [.ref b, zo G 0, zo G 84, .int (nI i)] [.int r] S' I' L' (zN S + 0) (σ + 0) _
  refine zl_aload_n C dL_law_500 rfl rfl ?_
  refine zl_aload_n C dL_law_501 rfl rfl ?_
  refine zl_iload_n C dL_law_502 rfl rfl ?_
  refine zl_iconst (v := nI 1) C dL_law_503 (by decide) ?_
  refine zl_iadd C dL_law_504 ?_
  refine zl_sld C hX hb hB dL_law_505 (hin 1 (by decide)) ?_
  refine zl_aload_n C dL_law_506 rfl rfl ?_
  refine zl_iload_n C dL_law_507 rfl rfl ?_
  refine zl_iconst (v := nI 2) C dL_law_508 (by decide) ?_
  refine zl_iadd C dL_law_509 ?_
  refine zl_sld C hX hb hB dL_law_510 (hin 2 (by decide)) ?_
  refine zl_callV (o := 84) (As := [.int (xs (nI i + nI 1).toNatClampNeg), .int (xs (nI i + nI 2).toNatClampNeg)]) (rest := [.int r]) (fr' := fX12_customs) (lo' := lX12_customs) (bc' := 0) (bs' := 0) C dL_law_511 zs_L_61 zi_X12_customs (fun H' hW ⟨H, h1, _, h3⟩ => zRec_sm h1.2.1 h3) rfl rfl (Nat.le_of_ble_eq_true rfl) (Nat.le_of_ble_eq_true rfl) (Nat.le_of_ble_eq_true rfl) (show _ ≤ 600000 by omega) (show _ ≤ 7302250 by omega) ?_
  refine ZC.mono (fun w S'' I'' L'' ⟨ew, σ', q1, q2, q3⟩ => ?_) k2
  subst ew
  show ZL G p l e room_1 s m args below meth c Z 514 [.ref b, zo G 0, zo G 84, .int (nI i)] [.int r, .int r] S'' I'' L'' (zN S + 0 + 0) (σ + 0 + 0) _
  refine zl_iceq (tgt := 1280) C dL_law_514 (by decide) (fun _ => ?_) (fun no => absurd rfl no)
  exact zl_nar hB (fun H hW hp => p2_use q1 hW hp) (next S'' I'' L'' σ' q2 q3)
theorem lc_11 {G : Gp} {p : Program} {l : Launch} {e : Env} {s : State} {m : MethodId} {args : Array Value} {below : List Frame} {meth : Method} {c : Code} {Z : State → Prop} {b Ln i σ : Nat} {xs : Nat → Int32} {S : zSh} {I : zFI} {L : zFL} (C : ZCx G (zLaw meth.name) 13 510 p room_1 s m args meth c) (hX : va_X b Ln xs s s.heap) (hb : b < gB G) (hB : gB G = s.heap.size) (hi : i + 6 ≤ Ln) (hLn : Ln ≤ 3072) (hI : zIn S I L) (g : zBg S σ) (next : ∀ (S' : zSh) (I' : zFI) (L' : zFL) (σ' : Nat), zIn S' I' L' → zBg S' σ' → ZL G p l e room_1 s m args below meth c Z 1280 [.ref b, zo G 0, zo G 84, .int (nI i)] [] S' I' L' (zN S') σ' (zP0 G s S' σ')) : ZL G p l e room_1 s m args below meth c Z 519 [.ref b, zo G 0, zo G 84, .int (nI i)] [] S I L (zN S) σ (zP0 G s S σ) := by
  have hin := sc_in hi hLn
  have hS := hI.std
  have hr := bg_room g
  refine zl_aload_n C dL_law_519 rfl rfl ?_
  refine zl_aload_n C dL_law_520 rfl rfl ?_
  refine zl_iload_n C dL_law_521 rfl rfl ?_
  refine zl_iconst (v := nI 1) C dL_law_522 (by decide) ?_
  refine zl_iadd C dL_law_523 ?_
  refine zl_sld C hX hb hB dL_law_524 (hin 1 (by decide)) ?_
  refine zl_aload_n C dL_law_525 rfl rfl ?_
  refine zl_iload_n C dL_law_526 rfl rfl ?_
  refine zl_iconst (v := nI 2) C dL_law_527 (by decide) ?_
  refine zl_iadd C dL_law_528 ?_
  refine zl_sld C hX hb hB dL_law_529 (hin 2 (by decide)) ?_
  refine zl_callV (o := 0) (As := [.int (xs (nI i + nI 1).toNatClampNeg), .int (xs (nI i + nI 2).toNatClampNeg)]) (rest := []) (fr' := fX11_of) (lo' := lX11_of) (bc' := 0) (bs' := 0) C dL_law_530 zs_L_62 zi_X11_of (fun H hW _ => zRec_std zcl_11 (hS.has (a := 0) rfl rfl) hW) rfl rfl (Nat.le_of_ble_eq_true rfl) (Nat.le_of_ble_eq_true rfl) (Nat.le_of_ble_eq_true rfl) (show _ ≤ 600000 by omega) (show _ ≤ 7302250 by omega) ?_
  refine ZC.mono (fun w S' I' L' ⟨r, ew, k2⟩ => ?_) (sp_of hI g)
  subst ew
  show ZL G p l e room_1 s m args below meth c Z 533 [.ref b, zo G 0, zo G 84, .int (nI i)] [.int r] S' I' L' (zN S + 0) (σ + 0) _
  refine zl_aload_n C dL_law_533 rfl rfl ?_
  refine zl_aload_n C dL_law_534 rfl rfl ?_
  refine zl_iload_n C dL_law_535 rfl rfl ?_
  refine zl_iconst (v := nI 1) C dL_law_536 (by decide) ?_
  refine zl_iadd C dL_law_537 ?_
  refine zl_sld C hX hb hB dL_law_538 (hin 1 (by decide)) ?_
  refine zl_aload_n C dL_law_539 rfl rfl ?_
  refine zl_iload_n C dL_law_540 rfl rfl ?_
  refine zl_iconst (v := nI 2) C dL_law_541 (by decide) ?_
  refine zl_iadd C dL_law_542 ?_
  refine zl_sld C hX hb hB dL_law_543 (hin 2 (by decide)) ?_
  refine zl_callV (o := 84) (As := [.int (xs (nI i + nI 1).toNatClampNeg), .int (xs (nI i + nI 2).toNatClampNeg)]) (rest := [.int r]) (fr' := fX12_of) (lo' := lX12_of) (bc' := 0) (bs' := 0) C dL_law_544 zs_L_65 zi_X12_of (fun H' hW ⟨H, h1, _, h3⟩ => zRec_sm h1.2.1 h3) rfl rfl (Nat.le_of_ble_eq_true rfl) (Nat.le_of_ble_eq_true rfl) (Nat.le_of_ble_eq_true rfl) (show _ ≤ 600000 by omega) (show _ ≤ 7302250 by omega) ?_
  refine ZC.mono (fun w S'' I'' L'' ⟨ew, σ', q1, q2, q3⟩ => ?_) k2
  subst ew
  show ZL G p l e room_1 s m args below meth c Z 547 [.ref b, zo G 0, zo G 84, .int (nI i)] [.int r, .int r] S'' I'' L'' (zN S + 0 + 0) (σ + 0 + 0) _
  refine zl_iceq (tgt := 1280) C dL_law_547 (by decide) (fun _ => ?_) (fun no => absurd rfl no)
  exact zl_nar hB (fun H hW hp => p2_use q1 hW hp) (next S'' I'' L'' σ' q2 q3)
theorem lc_12 {G : Gp} {p : Program} {l : Launch} {e : Env} {s : State} {m : MethodId} {args : Array Value} {below : List Frame} {meth : Method} {c : Code} {Z : State → Prop} {b Ln i σ : Nat} {xs : Nat → Int32} {S : zSh} {I : zFI} {L : zFL} (C : ZCx G (zLaw meth.name) 13 510 p room_1 s m args meth c) (hX : va_X b Ln xs s s.heap) (hb : b < gB G) (hB : gB G = s.heap.size) (hi : i + 6 ≤ Ln) (hLn : Ln ≤ 3072) (hI : zIn S I L) (g : zBg S σ) (next : ∀ (S' : zSh) (I' : zFI) (L' : zFL) (σ' : Nat), zIn S' I' L' → zBg S' σ' → ZL G p l e room_1 s m args below meth c Z 1280 [.ref b, zo G 0, zo G 84, .int (nI i)] [] S' I' L' (zN S') σ' (zP0 G s S' σ')) : ZL G p l e room_1 s m args below meth c Z 552 [.ref b, zo G 0, zo G 84, .int (nI i)] [] S I L (zN S) σ (zP0 G s S σ) := by
  have hin := sc_in hi hLn
  have hS := hI.std
  have hr := bg_room g
  refine zl_aload_n C dL_law_552 rfl rfl ?_
  refine zl_aload_n C dL_law_553 rfl rfl ?_
  refine zl_iload_n C dL_law_554 rfl rfl ?_
  refine zl_iconst (v := nI 1) C dL_law_555 (by decide) ?_
  refine zl_iadd C dL_law_556 ?_
  refine zl_sld C hX hb hB dL_law_557 (hin 1 (by decide)) ?_
  refine zl_aload_n C dL_law_558 rfl rfl ?_
  refine zl_iload_n C dL_law_559 rfl rfl ?_
  refine zl_iconst (v := nI 2) C dL_law_560 (by decide) ?_
  refine zl_iadd C dL_law_561 ?_
  refine zl_sld C hX hb hB dL_law_562 (hin 2 (by decide)) ?_
  refine zl_callV (o := 0) (As := [.int (xs (nI i + nI 1).toNatClampNeg), .int (xs (nI i + nI 2).toNatClampNeg)]) (rest := []) (fr' := fX11_at) (lo' := lX11_at) (bc' := 0) (bs' := 0) C dL_law_563 zs_L_66 zi_X11_at (fun H hW _ => zRec_std zcl_11 (hS.has (a := 0) rfl rfl) hW) rfl rfl (Nat.le_of_ble_eq_true rfl) (Nat.le_of_ble_eq_true rfl) (Nat.le_of_ble_eq_true rfl) (show _ ≤ 600000 by omega) (show _ ≤ 7302250 by omega) ?_
  refine ZC.mono (fun w S' I' L' ⟨r, ew, k2⟩ => ?_) (sp_at hI g)
  subst ew
  show ZL G p l e room_1 s m args below meth c Z 566 [.ref b, zo G 0, zo G 84, .int (nI i)] [.int r] S' I' L' (zN S + 0) (σ + 0) _
  refine zl_aload_n C dL_law_566 rfl rfl ?_
  refine zl_aload_n C dL_law_567 rfl rfl ?_
  refine zl_iload_n C dL_law_568 rfl rfl ?_
  refine zl_iconst (v := nI 1) C dL_law_569 (by decide) ?_
  refine zl_iadd C dL_law_570 ?_
  refine zl_sld C hX hb hB dL_law_571 (hin 1 (by decide)) ?_
  refine zl_aload_n C dL_law_572 rfl rfl ?_
  refine zl_iload_n C dL_law_573 rfl rfl ?_
  refine zl_iconst (v := nI 2) C dL_law_574 (by decide) ?_
  refine zl_iadd C dL_law_575 ?_
  refine zl_sld C hX hb hB dL_law_576 (hin 2 (by decide)) ?_
  refine zl_callV (o := 84) (As := [.int (xs (nI i + nI 1).toNatClampNeg), .int (xs (nI i + nI 2).toNatClampNeg)]) (rest := [.int r]) (fr' := fX12_at) (lo' := lX12_at) (bc' := 0) (bs' := 0) C dL_law_577 zs_L_69 zi_X12_at (fun H' hW ⟨H, h1, _, h3⟩ => zRec_sm h1.2.1 h3) rfl rfl (Nat.le_of_ble_eq_true rfl) (Nat.le_of_ble_eq_true rfl) (Nat.le_of_ble_eq_true rfl) (show _ ≤ 600000 by omega) (show _ ≤ 7302250 by omega) ?_
  refine ZC.mono (fun w S'' I'' L'' ⟨ew, σ', q1, q2, q3⟩ => ?_) k2
  subst ew
  show ZL G p l e room_1 s m args below meth c Z 580 [.ref b, zo G 0, zo G 84, .int (nI i)] [.int r, .int r] S'' I'' L'' (zN S + 0 + 0) (σ + 0 + 0) _
  refine zl_iceq (tgt := 1280) C dL_law_580 (by decide) (fun _ => ?_) (fun no => absurd rfl no)
  exact zl_nar hB (fun H hW hp => p2_use q1 hW hp) (next S'' I'' L'' σ' q2 q3)
theorem lc_13 {G : Gp} {p : Program} {l : Launch} {e : Env} {s : State} {m : MethodId} {args : Array Value} {below : List Frame} {meth : Method} {c : Code} {Z : State → Prop} {b Ln i σ : Nat} {xs : Nat → Int32} {S : zSh} {I : zFI} {L : zFL} (C : ZCx G (zLaw meth.name) 13 510 p room_1 s m args meth c) (hX : va_X b Ln xs s s.heap) (hb : b < gB G) (hB : gB G = s.heap.size) (hi : i + 6 ≤ Ln) (hLn : Ln ≤ 3072) (hI : zIn S I L) (g : zBg S σ) (next : ∀ (S' : zSh) (I' : zFI) (L' : zFL) (σ' : Nat), zIn S' I' L' → zBg S' σ' → ZL G p l e room_1 s m args below meth c Z 1280 [.ref b, zo G 0, zo G 84, .int (nI i)] [] S' I' L' (zN S') σ' (zP0 G s S' σ')) : ZL G p l e room_1 s m args below meth c Z 585 [.ref b, zo G 0, zo G 84, .int (nI i)] [] S I L (zN S) σ (zP0 G s S σ) := by
  have hin := sc_in hi hLn
  have hS := hI.std
  have hr := bg_room g
  refine zl_aload_n C dL_law_585 rfl rfl ?_
  refine zl_aload_n C dL_law_586 rfl rfl ?_
  refine zl_iload_n C dL_law_587 rfl rfl ?_
  refine zl_iconst (v := nI 1) C dL_law_588 (by decide) ?_
  refine zl_iadd C dL_law_589 ?_
  refine zl_sld C hX hb hB dL_law_590 (hin 1 (by decide)) ?_
  refine zl_aload_n C dL_law_591 rfl rfl ?_
  refine zl_iload_n C dL_law_592 rfl rfl ?_
  refine zl_iconst (v := nI 2) C dL_law_593 (by decide) ?_
  refine zl_iadd C dL_law_594 ?_
  refine zl_sld C hX hb hB dL_law_595 (hin 2 (by decide)) ?_
  refine zl_callV (o := 0) (As := [.int (xs (nI i + nI 1).toNatClampNeg), .int (xs (nI i + nI 2).toNatClampNeg)]) (rest := []) (fr' := fX11_reads) (lo' := lX11_reads) (bc' := 0) (bs' := 0) C dL_law_596 zs_L_70 zi_X11_reads (fun H hW _ => zRec_std zcl_11 (hS.has (a := 0) rfl rfl) hW) rfl rfl (Nat.le_of_ble_eq_true rfl) (Nat.le_of_ble_eq_true rfl) (Nat.le_of_ble_eq_true rfl) (show _ ≤ 600000 by omega) (show _ ≤ 7302250 by omega) ?_
  refine ZC.mono (fun w S' I' L' ⟨r, ew, k2⟩ => ?_) (sp_reads hI g)
  subst ew
  show ZL G p l e room_1 s m args below meth c Z 599 [.ref b, zo G 0, zo G 84, .int (nI i)] [.long r] S' I' L' (zN S + 0) (σ + 0) _
  refine zl_aload_n C dL_law_599 rfl rfl ?_
  refine zl_aload_n C dL_law_600 rfl rfl ?_
  refine zl_iload_n C dL_law_601 rfl rfl ?_
  refine zl_iconst (v := nI 1) C dL_law_602 (by decide) ?_
  refine zl_iadd C dL_law_603 ?_
  refine zl_sld C hX hb hB dL_law_604 (hin 1 (by decide)) ?_
  refine zl_aload_n C dL_law_605 rfl rfl ?_
  refine zl_iload_n C dL_law_606 rfl rfl ?_
  refine zl_iconst (v := nI 2) C dL_law_607 (by decide) ?_
  refine zl_iadd C dL_law_608 ?_
  refine zl_sld C hX hb hB dL_law_609 (hin 2 (by decide)) ?_
  refine zl_callV (o := 84) (As := [.int (xs (nI i + nI 1).toNatClampNeg), .int (xs (nI i + nI 2).toNatClampNeg)]) (rest := [.long r]) (fr' := fX12_reads_) (lo' := lX12_reads_) (bc' := 0) (bs' := 0) C dL_law_610 zs_L_74 zi_X12_reads_ (fun H' hW ⟨H, h1, _, h3⟩ => zRec_sm h1.2.1 h3) rfl rfl (Nat.le_of_ble_eq_true rfl) (Nat.le_of_ble_eq_true rfl) (Nat.le_of_ble_eq_true rfl) (show _ ≤ 600000 by omega) (show _ ≤ 7302250 by omega) ?_
  refine ZC.mono (fun w S'' I'' L'' ⟨ew, σ', q1, q2, q3⟩ => ?_) k2
  subst ew
  show ZL G p l e room_1 s m args below meth c Z 613 [.ref b, zo G 0, zo G 84, .int (nI i)] [.long r, .long r] S'' I'' L'' (zN S + 0 + 0) (σ + 0 + 0) _
  refine zl_lcmp C dL_law_613 ?_
  refine zl_ifeq (tgt := 1280) C dL_law_614 (by decide) (fun _ => ?_) (fun no => absurd (lg_cmp_0 r) no)
  exact zl_nar hB (fun H hW hp => p2_use q1 hW hp) (next S'' I'' L'' σ' q2 q3)
theorem lc_14 {G : Gp} {p : Program} {l : Launch} {e : Env} {s : State} {m : MethodId} {args : Array Value} {below : List Frame} {meth : Method} {c : Code} {Z : State → Prop} {b Ln i σ : Nat} {xs : Nat → Int32} {S : zSh} {I : zFI} {L : zFL} (C : ZCx G (zLaw meth.name) 13 510 p room_1 s m args meth c) (hX : va_X b Ln xs s s.heap) (hb : b < gB G) (hB : gB G = s.heap.size) (hi : i + 6 ≤ Ln) (hLn : Ln ≤ 3072) (hI : zIn S I L) (g : zBg S σ) (next : ∀ (S' : zSh) (I' : zFI) (L' : zFL) (σ' : Nat), zIn S' I' L' → zBg S' σ' → ZL G p l e room_1 s m args below meth c Z 1280 [.ref b, zo G 0, zo G 84, .int (nI i)] [] S' I' L' (zN S') σ' (zP0 G s S' σ')) : ZL G p l e room_1 s m args below meth c Z 619 [.ref b, zo G 0, zo G 84, .int (nI i)] [] S I L (zN S) σ (zP0 G s S σ) := by
  have hin := sc_in hi hLn
  have hS := hI.std
  have hr := bg_room g
  refine zl_aload_n C dL_law_619 rfl rfl ?_
  refine zl_aload_n C dL_law_620 rfl rfl ?_
  refine zl_iload_n C dL_law_621 rfl rfl ?_
  refine zl_iconst (v := nI 1) C dL_law_622 (by decide) ?_
  refine zl_iadd C dL_law_623 ?_
  refine zl_sld C hX hb hB dL_law_624 (hin 1 (by decide)) ?_
  refine zl_aload_n C dL_law_625 rfl rfl ?_
  refine zl_iload_n C dL_law_626 rfl rfl ?_
  refine zl_iconst (v := nI 2) C dL_law_627 (by decide) ?_
  refine zl_iadd C dL_law_628 ?_
  refine zl_sld C hX hb hB dL_law_629 (hin 2 (by decide)) ?_
  refine zl_aload_n C dL_law_630 rfl rfl ?_
  refine zl_iload_n C dL_law_631 rfl rfl ?_
  refine zl_iconst (v := nI 3) C dL_law_632 (by decide) ?_
  refine zl_iadd C dL_law_633 ?_
  refine zl_sld C hX hb hB dL_law_634 (hin 3 (by decide)) ?_
  refine zl_callV (o := 0) (As := [.int (xs (nI i + nI 1).toNatClampNeg), .int (xs (nI i + nI 2).toNatClampNeg), .int (xs (nI i + nI 3).toNatClampNeg)]) (rest := []) (fr' := fX11_fits) (lo' := lX11_fits) (bc' := 0) (bs' := 0) C dL_law_635 zs_L_75 zi_X11_fits (fun H hW _ => zRec_std zcl_11 (hS.has (a := 0) rfl rfl) hW) rfl rfl (Nat.le_of_ble_eq_true rfl) (Nat.le_of_ble_eq_true rfl) (Nat.le_of_ble_eq_true rfl) (show _ ≤ 600000 by omega) (show _ ≤ 7302250 by omega) ?_
  refine ZC.mono (fun w S' I' L' ⟨r, ew, k2⟩ => ?_) (sp_fits hI g)
  subst ew
  show ZL G p l e room_1 s m args below meth c Z 638 [.ref b, zo G 0, zo G 84, .int (nI i)] [.int r] S' I' L' (zN S + 0) (σ + 0) _
  refine zl_aload_n C dL_law_638 rfl rfl ?_
  refine zl_aload_n C dL_law_639 rfl rfl ?_
  refine zl_iload_n C dL_law_640 rfl rfl ?_
  refine zl_iconst (v := nI 1) C dL_law_641 (by decide) ?_
  refine zl_iadd C dL_law_642 ?_
  refine zl_sld C hX hb hB dL_law_643 (hin 1 (by decide)) ?_
  refine zl_aload_n C dL_law_644 rfl rfl ?_
  refine zl_iload_n C dL_law_645 rfl rfl ?_
  refine zl_iconst (v := nI 2) C dL_law_646 (by decide) ?_
  refine zl_iadd C dL_law_647 ?_
  refine zl_sld C hX hb hB dL_law_648 (hin 2 (by decide)) ?_
  refine zl_aload_n C dL_law_649 rfl rfl ?_
  refine zl_iload_n C dL_law_650 rfl rfl ?_
  refine zl_iconst (v := nI 3) C dL_law_651 (by decide) ?_
  refine zl_iadd C dL_law_652 ?_
  refine zl_sld C hX hb hB dL_law_653 (hin 3 (by decide)) ?_
  refine zl_callV (o := 84) (As := [.int (xs (nI i + nI 1).toNatClampNeg), .int (xs (nI i + nI 2).toNatClampNeg), .int (xs (nI i + nI 3).toNatClampNeg)]) (rest := [.int r]) (fr' := fX12_fits) (lo' := lX12_fits) (bc' := 0) (bs' := 0) C dL_law_654 zs_L_79 zi_X12_fits (fun H' hW ⟨H, h1, _, h3⟩ => zRec_sm h1.2.1 h3) rfl rfl (Nat.le_of_ble_eq_true rfl) (Nat.le_of_ble_eq_true rfl) (Nat.le_of_ble_eq_true rfl) (show _ ≤ 600000 by omega) (show _ ≤ 7302250 by omega) ?_
  refine ZC.mono (fun w S'' I'' L'' ⟨ew, σ', q1, q2, q3⟩ => ?_) k2
  subst ew
  show ZL G p l e room_1 s m args below meth c Z 657 [.ref b, zo G 0, zo G 84, .int (nI i)] [.int r, .int r] S'' I'' L'' (zN S + 0 + 0) (σ + 0 + 0) _
  refine zl_iceq (tgt := 1280) C dL_law_657 (by decide) (fun _ => ?_) (fun no => absurd rfl no)
  exact zl_nar hB (fun H hW hp => p2_use q1 hW hp) (next S'' I'' L'' σ' q2 q3)
theorem lc_15 {G : Gp} {p : Program} {l : Launch} {e : Env} {s : State} {m : MethodId} {args : Array Value} {below : List Frame} {meth : Method} {c : Code} {Z : State → Prop} {b Ln i σ : Nat} {xs : Nat → Int32} {S : zSh} {I : zFI} {L : zFL} (C : ZCx G (zLaw meth.name) 13 510 p room_1 s m args meth c) (hX : va_X b Ln xs s s.heap) (hb : b < gB G) (hB : gB G = s.heap.size) (hi : i + 6 ≤ Ln) (hLn : Ln ≤ 3072) (hI : zIn S I L) (g : zBg S σ) (next : ∀ (S' : zSh) (I' : zFI) (L' : zFL) (σ' : Nat), zIn S' I' L' → zBg S' σ' → ZL G p l e room_1 s m args below meth c Z 1280 [.ref b, zo G 0, zo G 84, .int (nI i)] [] S' I' L' (zN S') σ' (zP0 G s S' σ')) : ZL G p l e room_1 s m args below meth c Z 662 [.ref b, zo G 0, zo G 84, .int (nI i)] [] S I L (zN S) σ (zP0 G s S σ) := by
  have hin := sc_in hi hLn
  have hS := hI.std
  have hr := bg_room g
  refine zl_aload_n C dL_law_662 rfl rfl ?_
  refine zl_aload_n C dL_law_663 rfl rfl ?_
  refine zl_iload_n C dL_law_664 rfl rfl ?_
  refine zl_iconst (v := nI 1) C dL_law_665 (by decide) ?_
  refine zl_iadd C dL_law_666 ?_
  refine zl_sld C hX hb hB dL_law_667 (hin 1 (by decide)) ?_
  refine zl_aload_n C dL_law_668 rfl rfl ?_
  refine zl_iload_n C dL_law_669 rfl rfl ?_
  refine zl_iconst (v := nI 2) C dL_law_670 (by decide) ?_
  refine zl_iadd C dL_law_671 ?_
  refine zl_sld C hX hb hB dL_law_672 (hin 2 (by decide)) ?_
  refine zl_callV (o := 0) (As := [.int (xs (nI i + nI 1).toNatClampNeg), .int (xs (nI i + nI 2).toNatClampNeg)]) (rest := []) (fr' := fX11_join) (lo' := lX11_join) (bc' := 0) (bs' := 0) C dL_law_673 zs_L_80 zi_X11_join (fun H hW _ => zRec_std zcl_11 (hS.has (a := 0) rfl rfl) hW) rfl rfl (Nat.le_of_ble_eq_true rfl) (Nat.le_of_ble_eq_true rfl) (Nat.le_of_ble_eq_true rfl) (show _ ≤ 600000 by omega) (show _ ≤ 7302250 by omega) ?_
  refine ZC.mono (fun w S' I' L' ⟨r, ew, k2⟩ => ?_) (sp_join hI g)
  subst ew
  show ZL G p l e room_1 s m args below meth c Z 676 [.ref b, zo G 0, zo G 84, .int (nI i)] [.int r] S' I' L' (zN S + 0) (σ + 0) _
  refine zl_aload_n C dL_law_676 rfl rfl ?_
  refine zl_aload_n C dL_law_677 rfl rfl ?_
  refine zl_iload_n C dL_law_678 rfl rfl ?_
  refine zl_iconst (v := nI 1) C dL_law_679 (by decide) ?_
  refine zl_iadd C dL_law_680 ?_
  refine zl_sld C hX hb hB dL_law_681 (hin 1 (by decide)) ?_
  refine zl_aload_n C dL_law_682 rfl rfl ?_
  refine zl_iload_n C dL_law_683 rfl rfl ?_
  refine zl_iconst (v := nI 2) C dL_law_684 (by decide) ?_
  refine zl_iadd C dL_law_685 ?_
  refine zl_sld C hX hb hB dL_law_686 (hin 2 (by decide)) ?_
  refine zl_callV (o := 84) (As := [.int (xs (nI i + nI 1).toNatClampNeg), .int (xs (nI i + nI 2).toNatClampNeg)]) (rest := [.int r]) (fr' := fX12_join) (lo' := lX12_join) (bc' := 0) (bs' := 0) C dL_law_687 zs_L_83 zi_X12_join (fun H' hW ⟨H, h1, _, h3⟩ => zRec_sm h1.2.1 h3) rfl rfl (Nat.le_of_ble_eq_true rfl) (Nat.le_of_ble_eq_true rfl) (Nat.le_of_ble_eq_true rfl) (show _ ≤ 600000 by omega) (show _ ≤ 7302250 by omega) ?_
  refine ZC.mono (fun w S'' I'' L'' ⟨ew, σ', q1, q2, q3⟩ => ?_) k2
  subst ew
  show ZL G p l e room_1 s m args below meth c Z 690 [.ref b, zo G 0, zo G 84, .int (nI i)] [.int r, .int r] S'' I'' L'' (zN S + 0 + 0) (σ + 0 + 0) _
  refine zl_iceq (tgt := 1280) C dL_law_690 (by decide) (fun _ => ?_) (fun no => absurd rfl no)
  exact zl_nar hB (fun H hW hp => p2_use q1 hW hp) (next S'' I'' L'' σ' q2 q3)
theorem lc_16 {G : Gp} {p : Program} {l : Launch} {e : Env} {s : State} {m : MethodId} {args : Array Value} {below : List Frame} {meth : Method} {c : Code} {Z : State → Prop} {b Ln i σ : Nat} {xs : Nat → Int32} {S : zSh} {I : zFI} {L : zFL} (C : ZCx G (zLaw meth.name) 13 510 p room_1 s m args meth c) (hX : va_X b Ln xs s s.heap) (hb : b < gB G) (hB : gB G = s.heap.size) (hi : i + 6 ≤ Ln) (hLn : Ln ≤ 3072) (hI : zIn S I L) (g : zBg S σ) (next : ∀ (S' : zSh) (I' : zFI) (L' : zFL) (σ' : Nat), zIn S' I' L' → zBg S' σ' → ZL G p l e room_1 s m args below meth c Z 1280 [.ref b, zo G 0, zo G 84, .int (nI i)] [] S' I' L' (zN S') σ' (zP0 G s S' σ')) : ZL G p l e room_1 s m args below meth c Z 695 [.ref b, zo G 0, zo G 84, .int (nI i)] [] S I L (zN S) σ (zP0 G s S σ) := by
  have hin := sc_in hi hLn
  have hS := hI.std
  have hr := bg_room g
  refine zl_aload_n C dL_law_695 rfl rfl ?_
  refine zl_aload_n C dL_law_696 rfl rfl ?_
  refine zl_iload_n C dL_law_697 rfl rfl ?_
  refine zl_iconst (v := nI 1) C dL_law_698 (by decide) ?_
  refine zl_iadd C dL_law_699 ?_
  refine zl_sld C hX hb hB dL_law_700 (hin 1 (by decide)) ?_
  refine zl_aload_n C dL_law_701 rfl rfl ?_
  refine zl_iload_n C dL_law_702 rfl rfl ?_
  refine zl_iconst (v := nI 2) C dL_law_703 (by decide) ?_
  refine zl_iadd C dL_law_704 ?_
  refine zl_sld C hX hb hB dL_law_705 (hin 2 (by decide)) ?_
  refine zl_callV (o := 0) (As := [.int (xs (nI i + nI 1).toNatClampNeg), .int (xs (nI i + nI 2).toNatClampNeg)]) (rest := []) (fr' := fX11_mate) (lo' := lX11_mate) (bc' := 0) (bs' := 0) C dL_law_706 zs_L_84 zi_X11_mate (fun H hW _ => zRec_std zcl_11 (hS.has (a := 0) rfl rfl) hW) rfl rfl (Nat.le_of_ble_eq_true rfl) (Nat.le_of_ble_eq_true rfl) (Nat.le_of_ble_eq_true rfl) (show _ ≤ 600000 by omega) (show _ ≤ 7302250 by omega) ?_
  refine ZC.mono (fun w S' I' L' ⟨r, ew, k2⟩ => ?_) (sp_mate hI g)
  subst ew
  show ZL G p l e room_1 s m args below meth c Z 709 [.ref b, zo G 0, zo G 84, .int (nI i)] [.int r] S' I' L' (zN S + 0) (σ + 0) _
  refine zl_aload_n C dL_law_709 rfl rfl ?_
  refine zl_aload_n C dL_law_710 rfl rfl ?_
  refine zl_iload_n C dL_law_711 rfl rfl ?_
  refine zl_iconst (v := nI 1) C dL_law_712 (by decide) ?_
  refine zl_iadd C dL_law_713 ?_
  refine zl_sld C hX hb hB dL_law_714 (hin 1 (by decide)) ?_
  refine zl_aload_n C dL_law_715 rfl rfl ?_
  refine zl_iload_n C dL_law_716 rfl rfl ?_
  refine zl_iconst (v := nI 2) C dL_law_717 (by decide) ?_
  refine zl_iadd C dL_law_718 ?_
  refine zl_sld C hX hb hB dL_law_719 (hin 2 (by decide)) ?_
  refine zl_callV (o := 84) (As := [.int (xs (nI i + nI 1).toNatClampNeg), .int (xs (nI i + nI 2).toNatClampNeg)]) (rest := [.int r]) (fr' := fX12_mate) (lo' := lX12_mate) (bc' := 0) (bs' := 0) C dL_law_720 zs_L_87 zi_X12_mate (fun H' hW ⟨H, h1, _, h3⟩ => zRec_sm h1.2.1 h3) rfl rfl (Nat.le_of_ble_eq_true rfl) (Nat.le_of_ble_eq_true rfl) (Nat.le_of_ble_eq_true rfl) (show _ ≤ 600000 by omega) (show _ ≤ 7302250 by omega) ?_
  refine ZC.mono (fun w S'' I'' L'' ⟨ew, σ', q1, q2, q3⟩ => ?_) k2
  subst ew
  show ZL G p l e room_1 s m args below meth c Z 723 [.ref b, zo G 0, zo G 84, .int (nI i)] [.int r, .int r] S'' I'' L'' (zN S + 0 + 0) (σ + 0 + 0) _
  refine zl_iceq (tgt := 1280) C dL_law_723 (by decide) (fun _ => ?_) (fun no => absurd rfl no)
  exact zl_nar hB (fun H hW hp => p2_use q1 hW hp) (next S'' I'' L'' σ' q2 q3)
theorem lc_17 {G : Gp} {p : Program} {l : Launch} {e : Env} {s : State} {m : MethodId} {args : Array Value} {below : List Frame} {meth : Method} {c : Code} {Z : State → Prop} {b Ln i σ : Nat} {xs : Nat → Int32} {S : zSh} {I : zFI} {L : zFL} (C : ZCx G (zLaw meth.name) 13 510 p room_1 s m args meth c) (hX : va_X b Ln xs s s.heap) (hb : b < gB G) (hB : gB G = s.heap.size) (hi : i + 6 ≤ Ln) (hLn : Ln ≤ 3072) (hI : zIn S I L) (g : zBg S σ) (next : ∀ (S' : zSh) (I' : zFI) (L' : zFL) (σ' : Nat), zIn S' I' L' → zBg S' σ' → ZL G p l e room_1 s m args below meth c Z 1280 [.ref b, zo G 0, zo G 84, .int (nI i)] [] S' I' L' (zN S') σ' (zP0 G s S' σ')) : ZL G p l e room_1 s m args below meth c Z 728 [.ref b, zo G 0, zo G 84, .int (nI i)] [] S I L (zN S) σ (zP0 G s S σ) := by
  have hin := sc_in hi hLn
  have hS := hI.std
  have hr := bg_room g
  refine zl_aload_n C dL_law_728 rfl rfl ?_
  refine zl_aload_n C dL_law_729 rfl rfl ?_
  refine zl_iload_n C dL_law_730 rfl rfl ?_
  refine zl_iconst (v := nI 1) C dL_law_731 (by decide) ?_
  refine zl_iadd C dL_law_732 ?_
  refine zl_sld C hX hb hB dL_law_733 (hin 1 (by decide)) ?_
  refine zl_aload_n C dL_law_734 rfl rfl ?_
  refine zl_iload_n C dL_law_735 rfl rfl ?_
  refine zl_iconst (v := nI 2) C dL_law_736 (by decide) ?_
  refine zl_iadd C dL_law_737 ?_
  refine zl_sld C hX hb hB dL_law_738 (hin 2 (by decide)) ?_
  refine zl_callV (o := 0) (As := [.int (xs (nI i + nI 1).toNatClampNeg), .int (xs (nI i + nI 2).toNatClampNeg)]) (rest := []) (fr' := fX11_forced) (lo' := lX11_forced) (bc' := 0) (bs' := 0) C dL_law_739 zs_L_88 zi_X11_forced (fun H hW _ => zRec_std zcl_11 (hS.has (a := 0) rfl rfl) hW) rfl rfl (Nat.le_of_ble_eq_true rfl) (Nat.le_of_ble_eq_true rfl) (Nat.le_of_ble_eq_true rfl) (show _ ≤ 600000 by omega) (show _ ≤ 7302250 by omega) ?_
  refine ZC.mono (fun w S' I' L' ⟨r, ew, k2⟩ => ?_) (sp_forced hI g)
  subst ew
  show ZL G p l e room_1 s m args below meth c Z 742 [.ref b, zo G 0, zo G 84, .int (nI i)] [.int r] S' I' L' (zN S + 0) (σ + 0) _
  refine zl_aload_n C dL_law_742 rfl rfl ?_
  refine zl_aload_n C dL_law_743 rfl rfl ?_
  refine zl_iload_n C dL_law_744 rfl rfl ?_
  refine zl_iconst (v := nI 1) C dL_law_745 (by decide) ?_
  refine zl_iadd C dL_law_746 ?_
  refine zl_sld C hX hb hB dL_law_747 (hin 1 (by decide)) ?_
  refine zl_aload_n C dL_law_748 rfl rfl ?_
  refine zl_iload_n C dL_law_749 rfl rfl ?_
  refine zl_iconst (v := nI 2) C dL_law_750 (by decide) ?_
  refine zl_iadd C dL_law_751 ?_
  refine zl_sld C hX hb hB dL_law_752 (hin 2 (by decide)) ?_
  refine zl_callV (o := 84) (As := [.int (xs (nI i + nI 1).toNatClampNeg), .int (xs (nI i + nI 2).toNatClampNeg)]) (rest := [.int r]) (fr' := fX12_forced) (lo' := lX12_forced) (bc' := 0) (bs' := 0) C dL_law_753 zs_L_91 zi_X12_forced (fun H' hW ⟨H, h1, _, h3⟩ => zRec_sm h1.2.1 h3) rfl rfl (Nat.le_of_ble_eq_true rfl) (Nat.le_of_ble_eq_true rfl) (Nat.le_of_ble_eq_true rfl) (show _ ≤ 600000 by omega) (show _ ≤ 7302250 by omega) ?_
  refine ZC.mono (fun w S'' I'' L'' ⟨ew, σ', q1, q2, q3⟩ => ?_) k2
  subst ew
  show ZL G p l e room_1 s m args below meth c Z 756 [.ref b, zo G 0, zo G 84, .int (nI i)] [.int r, .int r] S'' I'' L'' (zN S + 0 + 0) (σ + 0 + 0) _
  refine zl_iceq (tgt := 1280) C dL_law_756 (by decide) (fun _ => ?_) (fun no => absurd rfl no)
  exact zl_nar hB (fun H hW hp => p2_use q1 hW hp) (next S'' I'' L'' σ' q2 q3)
theorem lc_18 {G : Gp} {p : Program} {l : Launch} {e : Env} {s : State} {m : MethodId} {args : Array Value} {below : List Frame} {meth : Method} {c : Code} {Z : State → Prop} {b Ln i σ : Nat} {xs : Nat → Int32} {S : zSh} {I : zFI} {L : zFL} (C : ZCx G (zLaw meth.name) 13 510 p room_1 s m args meth c) (hX : va_X b Ln xs s s.heap) (hb : b < gB G) (hB : gB G = s.heap.size) (hi : i + 6 ≤ Ln) (hLn : Ln ≤ 3072) (hI : zIn S I L) (g : zBg S σ) (next : ∀ (S' : zSh) (I' : zFI) (L' : zFL) (σ' : Nat), zIn S' I' L' → zBg S' σ' → ZL G p l e room_1 s m args below meth c Z 1280 [.ref b, zo G 0, zo G 84, .int (nI i)] [] S' I' L' (zN S') σ' (zP0 G s S' σ')) : ZL G p l e room_1 s m args below meth c Z 761 [.ref b, zo G 0, zo G 84, .int (nI i)] [] S I L (zN S) σ (zP0 G s S σ) := by
  have hin := sc_in hi hLn
  have hS := hI.std
  have hr := bg_room g
  refine zl_aload_n C dL_law_761 rfl rfl ?_
  refine zl_aload_n C dL_law_762 rfl rfl ?_
  refine zl_iload_n C dL_law_763 rfl rfl ?_
  refine zl_iconst (v := nI 1) C dL_law_764 (by decide) ?_
  refine zl_iadd C dL_law_765 ?_
  refine zl_sld C hX hb hB dL_law_766 (hin 1 (by decide)) ?_
  refine zl_aload_n C dL_law_767 rfl rfl ?_
  refine zl_iload_n C dL_law_768 rfl rfl ?_
  refine zl_iconst (v := nI 2) C dL_law_769 (by decide) ?_
  refine zl_iadd C dL_law_770 ?_
  refine zl_sld C hX hb hB dL_law_771 (hin 2 (by decide)) ?_
  refine zl_callV (o := 0) (As := [.int (xs (nI i + nI 1).toNatClampNeg), .int (xs (nI i + nI 2).toNatClampNeg)]) (rest := []) (fr' := fX11_frameOf) (lo' := lX11_frameOf) (bc' := 0) (bs' := 0) C dL_law_772 zs_L_92 zi_X11_frameOf (fun H hW _ => zRec_std zcl_11 (hS.has (a := 0) rfl rfl) hW) rfl rfl (Nat.le_of_ble_eq_true rfl) (Nat.le_of_ble_eq_true rfl) (Nat.le_of_ble_eq_true rfl) (show _ ≤ 600000 by omega) (show _ ≤ 7302250 by omega) ?_
  refine ZC.mono (fun w S' I' L' ⟨r, ew, k2⟩ => ?_) (sp_frameOf hI g)
  subst ew
  show ZL G p l e room_1 s m args below meth c Z 775 [.ref b, zo G 0, zo G 84, .int (nI i)] [.int r] S' I' L' (zN S + 0) (σ + 0) _
  refine zl_aload_n C dL_law_775 rfl rfl ?_
  refine zl_aload_n C dL_law_776 rfl rfl ?_
  refine zl_iload_n C dL_law_777 rfl rfl ?_
  refine zl_iconst (v := nI 1) C dL_law_778 (by decide) ?_
  refine zl_iadd C dL_law_779 ?_
  refine zl_sld C hX hb hB dL_law_780 (hin 1 (by decide)) ?_
  refine zl_aload_n C dL_law_781 rfl rfl ?_
  refine zl_iload_n C dL_law_782 rfl rfl ?_
  refine zl_iconst (v := nI 2) C dL_law_783 (by decide) ?_
  refine zl_iadd C dL_law_784 ?_
  refine zl_sld C hX hb hB dL_law_785 (hin 2 (by decide)) ?_
  refine zl_callV (o := 84) (As := [.int (xs (nI i + nI 1).toNatClampNeg), .int (xs (nI i + nI 2).toNatClampNeg)]) (rest := [.int r]) (fr' := fX12_frameOf) (lo' := lX12_frameOf) (bc' := 0) (bs' := 0) C dL_law_786 zs_L_95 zi_X12_frameOf (fun H' hW ⟨H, h1, _, h3⟩ => zRec_sm h1.2.1 h3) rfl rfl (Nat.le_of_ble_eq_true rfl) (Nat.le_of_ble_eq_true rfl) (Nat.le_of_ble_eq_true rfl) (show _ ≤ 600000 by omega) (show _ ≤ 7302250 by omega) ?_
  refine ZC.mono (fun w S'' I'' L'' ⟨ew, σ', q1, q2, q3⟩ => ?_) k2
  subst ew
  show ZL G p l e room_1 s m args below meth c Z 789 [.ref b, zo G 0, zo G 84, .int (nI i)] [.int r, .int r] S'' I'' L'' (zN S + 0 + 0) (σ + 0 + 0) _
  refine zl_iceq (tgt := 1280) C dL_law_789 (by decide) (fun _ => ?_) (fun no => absurd rfl no)
  exact zl_nar hB (fun H hW hp => p2_use q1 hW hp) (next S'' I'' L'' σ' q2 q3)
theorem lc_19 {G : Gp} {p : Program} {l : Launch} {e : Env} {s : State} {m : MethodId} {args : Array Value} {below : List Frame} {meth : Method} {c : Code} {Z : State → Prop} {b Ln i σ : Nat} {xs : Nat → Int32} {S : zSh} {I : zFI} {L : zFL} (C : ZCx G (zLaw meth.name) 13 510 p room_1 s m args meth c) (hX : va_X b Ln xs s s.heap) (hb : b < gB G) (hB : gB G = s.heap.size) (hi : i + 6 ≤ Ln) (hLn : Ln ≤ 3072) (hI : zIn S I L) (g : zBg S σ) (next : ∀ (S' : zSh) (I' : zFI) (L' : zFL) (σ' : Nat), zIn S' I' L' → zBg S' σ' → ZL G p l e room_1 s m args below meth c Z 1280 [.ref b, zo G 0, zo G 84, .int (nI i)] [] S' I' L' (zN S') σ' (zP0 G s S' σ')) : ZL G p l e room_1 s m args below meth c Z 794 [.ref b, zo G 0, zo G 84, .int (nI i)] [] S I L (zN S) σ (zP0 G s S σ) := by
  have hin := sc_in hi hLn
  have hS := hI.std
  have hr := bg_room g
  refine zl_aload_n C dL_law_794 rfl rfl ?_
  refine zl_aload_n C dL_law_795 rfl rfl ?_
  refine zl_iload_n C dL_law_796 rfl rfl ?_
  refine zl_iconst (v := nI 1) C dL_law_797 (by decide) ?_
  refine zl_iadd C dL_law_798 ?_
  refine zl_sld C hX hb hB dL_law_799 (hin 1 (by decide)) ?_
  refine zl_aload_n C dL_law_800 rfl rfl ?_
  refine zl_iload_n C dL_law_801 rfl rfl ?_
  refine zl_iconst (v := nI 2) C dL_law_802 (by decide) ?_
  refine zl_iadd C dL_law_803 ?_
  refine zl_sld C hX hb hB dL_law_804 (hin 2 (by decide)) ?_
  refine zl_aload_n C dL_law_805 rfl rfl ?_
  refine zl_iload_n C dL_law_806 rfl rfl ?_
  refine zl_iconst (v := nI 3) C dL_law_807 (by decide) ?_
  refine zl_iadd C dL_law_808 ?_
  refine zl_sld C hX hb hB dL_law_809 (hin 3 (by decide)) ?_
  refine zl_callV (o := 0) (As := [.int (xs (nI i + nI 1).toNatClampNeg), .int (xs (nI i + nI 2).toNatClampNeg), .int (xs (nI i + nI 3).toNatClampNeg)]) (rest := []) (fr' := fX11_frame) (lo' := lX11_frame) (bc' := 2) (bs' := 131072) C dL_law_810 zs_L_96 zi_X11_frame (fun H hW _ => zRec_std zcl_11 (hS.has (a := 0) rfl rfl) hW) rfl rfl (Nat.le_of_ble_eq_true rfl) (Nat.le_of_ble_eq_true rfl) (Nat.le_of_ble_eq_true rfl) (show _ ≤ 600000 by omega) (show _ ≤ 7302250 by omega) ?_
  refine ZC.mono (fun w S' I' L' ⟨r, ew, k2⟩ => ?_) (sp_frame hI g)
  subst ew
  show ZL G p l e room_1 s m args below meth c Z 813 [.ref b, zo G 0, zo G 84, .int (nI i)] [.int r] S' I' L' (zN S + 2) (σ + 131072) _
  refine zl_aload_n C dL_law_813 rfl rfl ?_
  refine zl_aload_n C dL_law_814 rfl rfl ?_
  refine zl_iload_n C dL_law_815 rfl rfl ?_
  refine zl_iconst (v := nI 1) C dL_law_816 (by decide) ?_
  refine zl_iadd C dL_law_817 ?_
  refine zl_sld C hX hb hB dL_law_818 (hin 1 (by decide)) ?_
  refine zl_aload_n C dL_law_819 rfl rfl ?_
  refine zl_iload_n C dL_law_820 rfl rfl ?_
  refine zl_iconst (v := nI 2) C dL_law_821 (by decide) ?_
  refine zl_iadd C dL_law_822 ?_
  refine zl_sld C hX hb hB dL_law_823 (hin 2 (by decide)) ?_
  refine zl_aload_n C dL_law_824 rfl rfl ?_
  refine zl_iload_n C dL_law_825 rfl rfl ?_
  refine zl_iconst (v := nI 3) C dL_law_826 (by decide) ?_
  refine zl_iadd C dL_law_827 ?_
  refine zl_sld C hX hb hB dL_law_828 (hin 3 (by decide)) ?_
  refine zl_callV (o := 84) (As := [.int (xs (nI i + nI 1).toNatClampNeg), .int (xs (nI i + nI 2).toNatClampNeg), .int (xs (nI i + nI 3).toNatClampNeg)]) (rest := [.int r]) (fr' := fX12_frame) (lo' := lX12_frame) (bc' := 0) (bs' := 0) C dL_law_829 zs_L_99 zi_X12_frame (fun H' hW ⟨H, h1, _, h3⟩ => zRec_sm h1.2.1 h3) rfl rfl (Nat.le_of_ble_eq_true rfl) (Nat.le_of_ble_eq_true rfl) (Nat.le_of_ble_eq_true rfl) (show _ ≤ 600000 by omega) (show _ ≤ 7302250 by omega) ?_
  refine ZC.mono (fun w S'' I'' L'' ⟨ew, σ', q1, q2, q3⟩ => ?_) k2
  subst ew
  show ZL G p l e room_1 s m args below meth c Z 832 [.ref b, zo G 0, zo G 84, .int (nI i)] [.int r, .int r] S'' I'' L'' (zN S + 2 + 0) (σ + 131072 + 0) _
  refine zl_iceq (tgt := 1280) C dL_law_832 (by decide) (fun _ => ?_) (fun no => absurd rfl no)
  exact zl_nar hB (fun H hW hp => p2_use q1 hW hp) (next S'' I'' L'' σ' q2 q3)
theorem lc_20 {G : Gp} {p : Program} {l : Launch} {e : Env} {s : State} {m : MethodId} {args : Array Value} {below : List Frame} {meth : Method} {c : Code} {Z : State → Prop} {b Ln i σ : Nat} {xs : Nat → Int32} {S : zSh} {I : zFI} {L : zFL} (C : ZCx G (zLaw meth.name) 13 510 p room_1 s m args meth c) (hX : va_X b Ln xs s s.heap) (hb : b < gB G) (hB : gB G = s.heap.size) (hi : i + 6 ≤ Ln) (hLn : Ln ≤ 3072) (hI : zIn S I L) (g : zBg S σ) (next : ∀ (S' : zSh) (I' : zFI) (L' : zFL) (σ' : Nat), zIn S' I' L' → zBg S' σ' → ZL G p l e room_1 s m args below meth c Z 1280 [.ref b, zo G 0, zo G 84, .int (nI i)] [] S' I' L' (zN S') σ' (zP0 G s S' σ')) : ZL G p l e room_1 s m args below meth c Z 837 [.ref b, zo G 0, zo G 84, .int (nI i)] [] S I L (zN S) σ (zP0 G s S σ) := by
  have hin := sc_in hi hLn
  have hS := hI.std
  have hr := bg_room g
  refine zl_aload_n C dL_law_837 rfl rfl ?_
  refine zl_aload_n C dL_law_838 rfl rfl ?_
  refine zl_iload_n C dL_law_839 rfl rfl ?_
  refine zl_iconst (v := nI 1) C dL_law_840 (by decide) ?_
  refine zl_iadd C dL_law_841 ?_
  refine zl_sld C hX hb hB dL_law_842 (hin 1 (by decide)) ?_
  refine zl_aload_n C dL_law_843 rfl rfl ?_
  refine zl_iload_n C dL_law_844 rfl rfl ?_
  refine zl_iconst (v := nI 2) C dL_law_845 (by decide) ?_
  refine zl_iadd C dL_law_846 ?_
  refine zl_sld C hX hb hB dL_law_847 (hin 2 (by decide)) ?_
  refine zl_callV (o := 0) (As := [.int (xs (nI i + nI 1).toNatClampNeg), .int (xs (nI i + nI 2).toNatClampNeg)]) (rest := []) (fr' := fX11_orders) (lo' := lX11_orders) (bc' := 2) (bs' := 131072) C dL_law_848 zs_L_100 zi_X11_orders (fun H hW _ => zRec_std zcl_11 (hS.has (a := 0) rfl rfl) hW) rfl rfl (Nat.le_of_ble_eq_true rfl) (Nat.le_of_ble_eq_true rfl) (Nat.le_of_ble_eq_true rfl) (show _ ≤ 600000 by omega) (show _ ≤ 7302250 by omega) ?_
  refine ZC.mono (fun w S' I' L' ⟨r, ew, k2⟩ => ?_) (sp_orders hI g)
  subst ew
  show ZL G p l e room_1 s m args below meth c Z 851 [.ref b, zo G 0, zo G 84, .int (nI i)] [.long r] S' I' L' (zN S + 2) (σ + 131072) _
  refine zl_aload_n C dL_law_851 rfl rfl ?_
  refine zl_aload_n C dL_law_852 rfl rfl ?_
  refine zl_iload_n C dL_law_853 rfl rfl ?_
  refine zl_iconst (v := nI 1) C dL_law_854 (by decide) ?_
  refine zl_iadd C dL_law_855 ?_
  refine zl_sld C hX hb hB dL_law_856 (hin 1 (by decide)) ?_
  refine zl_aload_n C dL_law_857 rfl rfl ?_
  refine zl_iload_n C dL_law_858 rfl rfl ?_
  refine zl_iconst (v := nI 2) C dL_law_859 (by decide) ?_
  refine zl_iadd C dL_law_860 ?_
  refine zl_sld C hX hb hB dL_law_861 (hin 2 (by decide)) ?_
  refine zl_callV (o := 84) (As := [.int (xs (nI i + nI 1).toNatClampNeg), .int (xs (nI i + nI 2).toNatClampNeg)]) (rest := [.long r]) (fr' := fX12_orders) (lo' := lX12_orders) (bc' := 0) (bs' := 0) C dL_law_862 zs_L_103 zi_X12_orders (fun H' hW ⟨H, h1, _, h3⟩ => zRec_sm h1.2.1 h3) rfl rfl (Nat.le_of_ble_eq_true rfl) (Nat.le_of_ble_eq_true rfl) (Nat.le_of_ble_eq_true rfl) (show _ ≤ 600000 by omega) (show _ ≤ 7302250 by omega) ?_
  refine ZC.mono (fun w S'' I'' L'' ⟨ew, σ', q1, q2, q3⟩ => ?_) k2
  subst ew
  show ZL G p l e room_1 s m args below meth c Z 865 [.ref b, zo G 0, zo G 84, .int (nI i)] [.long r, .long r] S'' I'' L'' (zN S + 2 + 0) (σ + 131072 + 0) _
  refine zl_lcmp C dL_law_865 ?_
  refine zl_ifeq (tgt := 1280) C dL_law_866 (by decide) (fun _ => ?_) (fun no => absurd (lg_cmp_0 r) no)
  exact zl_nar hB (fun H hW hp => p2_use q1 hW hp) (next S'' I'' L'' σ' q2 q3)
theorem lc_21 {G : Gp} {p : Program} {l : Launch} {e : Env} {s : State} {m : MethodId} {args : Array Value} {below : List Frame} {meth : Method} {c : Code} {Z : State → Prop} {b Ln i σ : Nat} {xs : Nat → Int32} {S : zSh} {I : zFI} {L : zFL} (C : ZCx G (zLaw meth.name) 13 510 p room_1 s m args meth c) (hX : va_X b Ln xs s s.heap) (hb : b < gB G) (hB : gB G = s.heap.size) (hi : i + 6 ≤ Ln) (hLn : Ln ≤ 3072) (hI : zIn S I L) (g : zBg S σ) (next : ∀ (S' : zSh) (I' : zFI) (L' : zFL) (σ' : Nat), zIn S' I' L' → zBg S' σ' → ZL G p l e room_1 s m args below meth c Z 1280 [.ref b, zo G 0, zo G 84, .int (nI i)] [] S' I' L' (zN S') σ' (zP0 G s S' σ')) : ZL G p l e room_1 s m args below meth c Z 871 [.ref b, zo G 0, zo G 84, .int (nI i)] [] S I L (zN S) σ (zP0 G s S σ) := by
  have hin := sc_in hi hLn
  have hS := hI.std
  have hr := bg_room g
  refine zl_aload_n C dL_law_871 rfl rfl ?_
  refine zl_aload_n C dL_law_872 rfl rfl ?_
  refine zl_iload_n C dL_law_873 rfl rfl ?_
  refine zl_iconst (v := nI 1) C dL_law_874 (by decide) ?_
  refine zl_iadd C dL_law_875 ?_
  refine zl_sld C hX hb hB dL_law_876 (hin 1 (by decide)) ?_
  refine zl_aload_n C dL_law_877 rfl rfl ?_
  refine zl_iload_n C dL_law_878 rfl rfl ?_
  refine zl_iconst (v := nI 2) C dL_law_879 (by decide) ?_
  refine zl_iadd C dL_law_880 ?_
  refine zl_sld C hX hb hB dL_law_881 (hin 2 (by decide)) ?_
  refine zl_aload_n C dL_law_882 rfl rfl ?_
  refine zl_iload_n C dL_law_883 rfl rfl ?_
  refine zl_iconst (v := nI 3) C dL_law_884 (by decide) ?_
  refine zl_iadd C dL_law_885 ?_
  refine zl_sld C hX hb hB dL_law_886 (hin 3 (by decide)) ?_
  refine zl_callV (o := 0) (As := [.int (xs (nI i + nI 1).toNatClampNeg), .int (xs (nI i + nI 2).toNatClampNeg), .int (xs (nI i + nI 3).toNatClampNeg)]) (rest := []) (fr' := fX11_raised) (lo' := lX11_raised) (bc' := 2) (bs' := 131072) C dL_law_887 zs_L_104 zi_X11_raised (fun H hW _ => zRec_std zcl_11 (hS.has (a := 0) rfl rfl) hW) rfl rfl (Nat.le_of_ble_eq_true rfl) (Nat.le_of_ble_eq_true rfl) (Nat.le_of_ble_eq_true rfl) (show _ ≤ 600000 by omega) (show _ ≤ 7302250 by omega) ?_
  refine ZC.mono (fun w S' I' L' ⟨r, ew, k2⟩ => ?_) (sp_raised hI g)
  subst ew
  show ZL G p l e room_1 s m args below meth c Z 890 [.ref b, zo G 0, zo G 84, .int (nI i)] [.int r] S' I' L' (zN S + 2) (σ + 131072) _
  refine zl_aload_n C dL_law_890 rfl rfl ?_
  refine zl_aload_n C dL_law_891 rfl rfl ?_
  refine zl_iload_n C dL_law_892 rfl rfl ?_
  refine zl_iconst (v := nI 1) C dL_law_893 (by decide) ?_
  refine zl_iadd C dL_law_894 ?_
  refine zl_sld C hX hb hB dL_law_895 (hin 1 (by decide)) ?_
  refine zl_aload_n C dL_law_896 rfl rfl ?_
  refine zl_iload_n C dL_law_897 rfl rfl ?_
  refine zl_iconst (v := nI 2) C dL_law_898 (by decide) ?_
  refine zl_iadd C dL_law_899 ?_
  refine zl_sld C hX hb hB dL_law_900 (hin 2 (by decide)) ?_
  refine zl_aload_n C dL_law_901 rfl rfl ?_
  refine zl_iload_n C dL_law_902 rfl rfl ?_
  refine zl_iconst (v := nI 3) C dL_law_903 (by decide) ?_
  refine zl_iadd C dL_law_904 ?_
  refine zl_sld C hX hb hB dL_law_905 (hin 3 (by decide)) ?_
  refine zl_callV (o := 84) (As := [.int (xs (nI i + nI 1).toNatClampNeg), .int (xs (nI i + nI 2).toNatClampNeg), .int (xs (nI i + nI 3).toNatClampNeg)]) (rest := [.int r]) (fr' := fX12_raised) (lo' := lX12_raised) (bc' := 0) (bs' := 0) C dL_law_906 zs_L_107 zi_X12_raised (fun H' hW ⟨H, h1, _, h3⟩ => zRec_sm h1.2.1 h3) rfl rfl (Nat.le_of_ble_eq_true rfl) (Nat.le_of_ble_eq_true rfl) (Nat.le_of_ble_eq_true rfl) (show _ ≤ 600000 by omega) (show _ ≤ 7302250 by omega) ?_
  refine ZC.mono (fun w S'' I'' L'' ⟨ew, σ', q1, q2, q3⟩ => ?_) k2
  subst ew
  show ZL G p l e room_1 s m args below meth c Z 909 [.ref b, zo G 0, zo G 84, .int (nI i)] [.int r, .int r] S'' I'' L'' (zN S + 2 + 0) (σ + 131072 + 0) _
  refine zl_iceq (tgt := 1280) C dL_law_909 (by decide) (fun _ => ?_) (fun no => absurd rfl no)
  exact zl_nar hB (fun H hW hp => p2_use q1 hW hp) (next S'' I'' L'' σ' q2 q3)
theorem lc_22 {G : Gp} {p : Program} {l : Launch} {e : Env} {s : State} {m : MethodId} {args : Array Value} {below : List Frame} {meth : Method} {c : Code} {Z : State → Prop} {b Ln i σ : Nat} {xs : Nat → Int32} {S : zSh} {I : zFI} {L : zFL} (C : ZCx G (zLaw meth.name) 13 510 p room_1 s m args meth c) (hX : va_X b Ln xs s s.heap) (hb : b < gB G) (hB : gB G = s.heap.size) (hi : i + 6 ≤ Ln) (hLn : Ln ≤ 3072) (hI : zIn S I L) (g : zBg S σ) (next : ∀ (S' : zSh) (I' : zFI) (L' : zFL) (σ' : Nat), zIn S' I' L' → zBg S' σ' → ZL G p l e room_1 s m args below meth c Z 1280 [.ref b, zo G 0, zo G 84, .int (nI i)] [] S' I' L' (zN S') σ' (zP0 G s S' σ')) : ZL G p l e room_1 s m args below meth c Z 914 [.ref b, zo G 0, zo G 84, .int (nI i)] [] S I L (zN S) σ (zP0 G s S σ) := by
  have hin := sc_in hi hLn
  have hS := hI.std
  have hr := bg_room g
  refine zl_aload_n C dL_law_914 rfl rfl ?_
  refine zl_aload_n C dL_law_915 rfl rfl ?_
  refine zl_iload_n C dL_law_916 rfl rfl ?_
  refine zl_iconst (v := nI 1) C dL_law_917 (by decide) ?_
  refine zl_iadd C dL_law_918 ?_
  refine zl_sld C hX hb hB dL_law_919 (hin 1 (by decide)) ?_
  refine zl_aload_n C dL_law_920 rfl rfl ?_
  refine zl_iload_n C dL_law_921 rfl rfl ?_
  refine zl_iconst (v := nI 2) C dL_law_922 (by decide) ?_
  refine zl_iadd C dL_law_923 ?_
  refine zl_sld C hX hb hB dL_law_924 (hin 2 (by decide)) ?_
  refine zl_callV (o := 0) (As := [.int (xs (nI i + nI 1).toNatClampNeg), .int (xs (nI i + nI 2).toNatClampNeg)]) (rest := []) (fr' := fX11_master) (lo' := lX11_master) (bc' := 0) (bs' := 0) C dL_law_925 zs_L_108 zi_X11_master (fun H hW _ => zRec_std zcl_11 (hS.has (a := 0) rfl rfl) hW) rfl rfl (Nat.le_of_ble_eq_true rfl) (Nat.le_of_ble_eq_true rfl) (Nat.le_of_ble_eq_true rfl) (show _ ≤ 600000 by omega) (show _ ≤ 7302250 by omega) ?_
  refine ZC.mono (fun w S' I' L' ⟨r, ew, k2⟩ => ?_) (sp_master hI g)
  subst ew
  show ZL G p l e room_1 s m args below meth c Z 928 [.ref b, zo G 0, zo G 84, .int (nI i)] [.int r] S' I' L' (zN S + 0) (σ + 0) _
  refine zl_aload_n C dL_law_928 rfl rfl ?_
  refine zl_aload_n C dL_law_929 rfl rfl ?_
  refine zl_iload_n C dL_law_930 rfl rfl ?_
  refine zl_iconst (v := nI 1) C dL_law_931 (by decide) ?_
  refine zl_iadd C dL_law_932 ?_
  refine zl_sld C hX hb hB dL_law_933 (hin 1 (by decide)) ?_
  refine zl_aload_n C dL_law_934 rfl rfl ?_
  refine zl_iload_n C dL_law_935 rfl rfl ?_
  refine zl_iconst (v := nI 2) C dL_law_936 (by decide) ?_
  refine zl_iadd C dL_law_937 ?_
  refine zl_sld C hX hb hB dL_law_938 (hin 2 (by decide)) ?_
  refine zl_callV (o := 84) (As := [.int (xs (nI i + nI 1).toNatClampNeg), .int (xs (nI i + nI 2).toNatClampNeg)]) (rest := [.int r]) (fr' := fX12_master) (lo' := lX12_master) (bc' := 0) (bs' := 0) C dL_law_939 zs_L_112 zi_X12_master (fun H' hW ⟨H, h1, _, h3⟩ => zRec_sm h1.2.1 h3) rfl rfl (Nat.le_of_ble_eq_true rfl) (Nat.le_of_ble_eq_true rfl) (Nat.le_of_ble_eq_true rfl) (show _ ≤ 600000 by omega) (show _ ≤ 7302250 by omega) ?_
  refine ZC.mono (fun w S'' I'' L'' ⟨ew, σ', q1, q2, q3⟩ => ?_) k2
  subst ew
  show ZL G p l e room_1 s m args below meth c Z 942 [.ref b, zo G 0, zo G 84, .int (nI i)] [.int r, .int r] S'' I'' L'' (zN S + 0 + 0) (σ + 0 + 0) _
  refine zl_iceq (tgt := 1280) C dL_law_942 (by decide) (fun _ => ?_) (fun no => absurd rfl no)
  exact zl_nar hB (fun H hW hp => p2_use q1 hW hp) (next S'' I'' L'' σ' q2 q3)
theorem lc_23 {G : Gp} {p : Program} {l : Launch} {e : Env} {s : State} {m : MethodId} {args : Array Value} {below : List Frame} {meth : Method} {c : Code} {Z : State → Prop} {b Ln i σ : Nat} {xs : Nat → Int32} {S : zSh} {I : zFI} {L : zFL} (C : ZCx G (zLaw meth.name) 13 510 p room_1 s m args meth c) (hX : va_X b Ln xs s s.heap) (hb : b < gB G) (hB : gB G = s.heap.size) (hi : i + 6 ≤ Ln) (hLn : Ln ≤ 3072) (hI : zIn S I L) (g : zBg S σ) (next : ∀ (S' : zSh) (I' : zFI) (L' : zFL) (σ' : Nat), zIn S' I' L' → zBg S' σ' → ZL G p l e room_1 s m args below meth c Z 1280 [.ref b, zo G 0, zo G 84, .int (nI i)] [] S' I' L' (zN S') σ' (zP0 G s S' σ')) : ZL G p l e room_1 s m args below meth c Z 947 [.ref b, zo G 0, zo G 84, .int (nI i)] [] S I L (zN S) σ (zP0 G s S σ) := by
  have hin := sc_in hi hLn
  have hS := hI.std
  have hr := bg_room g
  refine zl_aload_n C dL_law_947 rfl rfl ?_
  refine zl_aload_n C dL_law_948 rfl rfl ?_
  refine zl_iload_n C dL_law_949 rfl rfl ?_
  refine zl_iconst (v := nI 1) C dL_law_950 (by decide) ?_
  refine zl_iadd C dL_law_951 ?_
  refine zl_sld C hX hb hB dL_law_952 (hin 1 (by decide)) ?_
  refine zl_aload_n C dL_law_953 rfl rfl ?_
  refine zl_iload_n C dL_law_954 rfl rfl ?_
  refine zl_iconst (v := nI 2) C dL_law_955 (by decide) ?_
  refine zl_iadd C dL_law_956 ?_
  refine zl_sld C hX hb hB dL_law_957 (hin 2 (by decide)) ?_
  refine zl_callV (o := 0) (As := [.int (xs (nI i + nI 1).toNatClampNeg), .int (xs (nI i + nI 2).toNatClampNeg)]) (rest := []) (fr' := fX11_ring) (lo' := lX11_ring) (bc' := 0) (bs' := 0) C dL_law_958 zs_L_113 zi_X11_ring (fun H hW _ => zRec_std zcl_11 (hS.has (a := 0) rfl rfl) hW) rfl rfl (Nat.le_of_ble_eq_true rfl) (Nat.le_of_ble_eq_true rfl) (Nat.le_of_ble_eq_true rfl) (show _ ≤ 600000 by omega) (show _ ≤ 7302250 by omega) ?_
  refine ZC.mono (fun w S' I' L' ⟨r, ew, k2⟩ => ?_) (sp_ring hI g)
  subst ew
  show ZL G p l e room_1 s m args below meth c Z 961 [.ref b, zo G 0, zo G 84, .int (nI i)] [.int r] S' I' L' (zN S + 0) (σ + 0) _
  refine zl_aload_n C dL_law_961 rfl rfl ?_
  refine zl_aload_n C dL_law_962 rfl rfl ?_
  refine zl_iload_n C dL_law_963 rfl rfl ?_
  refine zl_iconst (v := nI 1) C dL_law_964 (by decide) ?_
  refine zl_iadd C dL_law_965 ?_
  refine zl_sld C hX hb hB dL_law_966 (hin 1 (by decide)) ?_
  refine zl_aload_n C dL_law_967 rfl rfl ?_
  refine zl_iload_n C dL_law_968 rfl rfl ?_
  refine zl_iconst (v := nI 2) C dL_law_969 (by decide) ?_
  refine zl_iadd C dL_law_970 ?_
  refine zl_sld C hX hb hB dL_law_971 (hin 2 (by decide)) ?_
  refine zl_callV (o := 84) (As := [.int (xs (nI i + nI 1).toNatClampNeg), .int (xs (nI i + nI 2).toNatClampNeg)]) (rest := [.int r]) (fr' := fX12_ring) (lo' := lX12_ring) (bc' := 0) (bs' := 0) C dL_law_972 zs_L_116 zi_X12_ring (fun H' hW ⟨H, h1, _, h3⟩ => zRec_sm h1.2.1 h3) rfl rfl (Nat.le_of_ble_eq_true rfl) (Nat.le_of_ble_eq_true rfl) (Nat.le_of_ble_eq_true rfl) (show _ ≤ 600000 by omega) (show _ ≤ 7302250 by omega) ?_
  refine ZC.mono (fun w S'' I'' L'' ⟨ew, σ', q1, q2, q3⟩ => ?_) k2
  subst ew
  show ZL G p l e room_1 s m args below meth c Z 975 [.ref b, zo G 0, zo G 84, .int (nI i)] [.int r, .int r] S'' I'' L'' (zN S + 0 + 0) (σ + 0 + 0) _
  refine zl_iceq (tgt := 1280) C dL_law_975 (by decide) (fun _ => ?_) (fun no => absurd rfl no)
  exact zl_nar hB (fun H hW hp => p2_use q1 hW hp) (next S'' I'' L'' σ' q2 q3)
theorem lc_24 {G : Gp} {p : Program} {l : Launch} {e : Env} {s : State} {m : MethodId} {args : Array Value} {below : List Frame} {meth : Method} {c : Code} {Z : State → Prop} {b Ln i σ : Nat} {xs : Nat → Int32} {S : zSh} {I : zFI} {L : zFL} (C : ZCx G (zLaw meth.name) 13 510 p room_1 s m args meth c) (hX : va_X b Ln xs s s.heap) (hb : b < gB G) (hB : gB G = s.heap.size) (hi : i + 6 ≤ Ln) (hLn : Ln ≤ 3072) (hI : zIn S I L) (g : zBg S σ) (next : ∀ (S' : zSh) (I' : zFI) (L' : zFL) (σ' : Nat), zIn S' I' L' → zBg S' σ' → ZL G p l e room_1 s m args below meth c Z 1280 [.ref b, zo G 0, zo G 84, .int (nI i)] [] S' I' L' (zN S') σ' (zP0 G s S' σ')) : ZL G p l e room_1 s m args below meth c Z 980 [.ref b, zo G 0, zo G 84, .int (nI i)] [] S I L (zN S) σ (zP0 G s S σ) := by
  have hin := sc_in hi hLn
  have hS := hI.std
  have hr := bg_room g
  refine zl_aload_n C dL_law_980 rfl rfl ?_
  refine zl_aload_n C dL_law_981 rfl rfl ?_
  refine zl_iload_n C dL_law_982 rfl rfl ?_
  refine zl_iconst (v := nI 1) C dL_law_983 (by decide) ?_
  refine zl_iadd C dL_law_984 ?_
  refine zl_sld C hX hb hB dL_law_985 (hin 1 (by decide)) ?_
  refine zl_aload_n C dL_law_986 rfl rfl ?_
  refine zl_iload_n C dL_law_987 rfl rfl ?_
  refine zl_iconst (v := nI 2) C dL_law_988 (by decide) ?_
  refine zl_iadd C dL_law_989 ?_
  refine zl_sld C hX hb hB dL_law_990 (hin 2 (by decide)) ?_
  refine zl_aload_n C dL_law_991 rfl rfl ?_
  refine zl_iload_n C dL_law_992 rfl rfl ?_
  refine zl_iconst (v := nI 3) C dL_law_993 (by decide) ?_
  refine zl_iadd C dL_law_994 ?_
  refine zl_sld C hX hb hB dL_law_995 (hin 3 (by decide)) ?_
  refine zl_if01 C dL_law_996 dL_law_999 dL_law_1000 dL_law_1003 ?_
  refine zl_callV (o := 0) (As := [.int (xs (nI i + nI 1).toNatClampNeg), .int (xs (nI i + nI 2).toNatClampNeg), .int ((if xs (nI i + nI 3).toNatClampNeg = 0 then 0 else 1))]) (rest := []) (fr' := fX11_sap) (lo' := lX11_sap) (bc' := 0) (bs' := 0) C dL_law_1004 zs_L_117 zi_X11_sap (fun H hW _ => zRec_std zcl_11 (hS.has (a := 0) rfl rfl) hW) rfl rfl (Nat.le_of_ble_eq_true rfl) (Nat.le_of_ble_eq_true rfl) (Nat.le_of_ble_eq_true rfl) (show _ ≤ 600000 by omega) (show _ ≤ 7302250 by omega) ?_
  refine ZC.mono (fun w S' I' L' ⟨r, ew, k2⟩ => ?_) (sp_sap hI g (by split <;> simp))
  subst ew
  show ZL G p l e room_1 s m args below meth c Z 1007 [.ref b, zo G 0, zo G 84, .int (nI i)] [.int r] S' I' L' (zN S + 0) (σ + 0) _
  refine zl_aload_n C dL_law_1007 rfl rfl ?_
  refine zl_aload_n C dL_law_1008 rfl rfl ?_
  refine zl_iload_n C dL_law_1009 rfl rfl ?_
  refine zl_iconst (v := nI 1) C dL_law_1010 (by decide) ?_
  refine zl_iadd C dL_law_1011 ?_
  refine zl_sld C hX hb hB dL_law_1012 (hin 1 (by decide)) ?_
  refine zl_aload_n C dL_law_1013 rfl rfl ?_
  refine zl_iload_n C dL_law_1014 rfl rfl ?_
  refine zl_iconst (v := nI 2) C dL_law_1015 (by decide) ?_
  refine zl_iadd C dL_law_1016 ?_
  refine zl_sld C hX hb hB dL_law_1017 (hin 2 (by decide)) ?_
  refine zl_aload_n C dL_law_1018 rfl rfl ?_
  refine zl_iload_n C dL_law_1019 rfl rfl ?_
  refine zl_iconst (v := nI 3) C dL_law_1020 (by decide) ?_
  refine zl_iadd C dL_law_1021 ?_
  refine zl_sld C hX hb hB dL_law_1022 (hin 3 (by decide)) ?_
  refine zl_if01 C dL_law_1023 dL_law_1026 dL_law_1027 dL_law_1030 ?_
  refine zl_callV (o := 84) (As := [.int (xs (nI i + nI 1).toNatClampNeg), .int (xs (nI i + nI 2).toNatClampNeg), .int ((if xs (nI i + nI 3).toNatClampNeg = 0 then 0 else 1))]) (rest := [.int r]) (fr' := fX12_sap) (lo' := lX12_sap) (bc' := 0) (bs' := 0) C dL_law_1031 zs_L_121 zi_X12_sap (fun H' hW ⟨H, h1, _, h3⟩ => zRec_sm h1.2.1 h3) rfl rfl (Nat.le_of_ble_eq_true rfl) (Nat.le_of_ble_eq_true rfl) (Nat.le_of_ble_eq_true rfl) (show _ ≤ 600000 by omega) (show _ ≤ 7302250 by omega) ?_
  refine ZC.mono (fun w S'' I'' L'' ⟨ew, σ', q1, q2, q3⟩ => ?_) k2
  subst ew
  show ZL G p l e room_1 s m args below meth c Z 1034 [.ref b, zo G 0, zo G 84, .int (nI i)] [.int r, .int r] S'' I'' L'' (zN S + 0 + 0) (σ + 0 + 0) _
  refine zl_iceq (tgt := 1280) C dL_law_1034 (by decide) (fun _ => ?_) (fun no => absurd rfl no)
  exact zl_nar hB (fun H hW hp => p2_use q1 hW hp) (next S'' I'' L'' σ' q2 q3)
theorem lc_25 {G : Gp} {p : Program} {l : Launch} {e : Env} {s : State} {m : MethodId} {args : Array Value} {below : List Frame} {meth : Method} {c : Code} {Z : State → Prop} {b Ln i σ : Nat} {xs : Nat → Int32} {S : zSh} {I : zFI} {L : zFL} (C : ZCx G (zLaw meth.name) 13 510 p room_1 s m args meth c) (hX : va_X b Ln xs s s.heap) (hb : b < gB G) (hB : gB G = s.heap.size) (hi : i + 6 ≤ Ln) (hLn : Ln ≤ 3072) (hI : zIn S I L) (g : zBg S σ) (next : ∀ (S' : zSh) (I' : zFI) (L' : zFL) (σ' : Nat), zIn S' I' L' → zBg S' σ' → ZL G p l e room_1 s m args below meth c Z 1280 [.ref b, zo G 0, zo G 84, .int (nI i)] [] S' I' L' (zN S') σ' (zP0 G s S' σ')) : ZL G p l e room_1 s m args below meth c Z 1039 [.ref b, zo G 0, zo G 84, .int (nI i)] [] S I L (zN S) σ (zP0 G s S σ) := by
  have hin := sc_in hi hLn
  have hS := hI.std
  have hr := bg_room g
  refine zl_aload_n C dL_law_1039 rfl rfl ?_
  refine zl_aload_n C dL_law_1040 rfl rfl ?_
  refine zl_iload_n C dL_law_1041 rfl rfl ?_
  refine zl_iconst (v := nI 1) C dL_law_1042 (by decide) ?_
  refine zl_iadd C dL_law_1043 ?_
  refine zl_sld C hX hb hB dL_law_1044 (hin 1 (by decide)) ?_
  refine zl_aload_n C dL_law_1045 rfl rfl ?_
  refine zl_iload_n C dL_law_1046 rfl rfl ?_
  refine zl_iconst (v := nI 2) C dL_law_1047 (by decide) ?_
  refine zl_iadd C dL_law_1048 ?_
  refine zl_sld C hX hb hB dL_law_1049 (hin 2 (by decide)) ?_
  refine zl_aload_n C dL_law_1050 rfl rfl ?_
  refine zl_iload_n C dL_law_1051 rfl rfl ?_
  refine zl_iconst (v := nI 3) C dL_law_1052 (by decide) ?_
  refine zl_iadd C dL_law_1053 ?_
  refine zl_sld C hX hb hB dL_law_1054 (hin 3 (by decide)) ?_
  refine zl_callV (o := 0) (As := [.int (xs (nI i + nI 1).toNatClampNeg), .int (xs (nI i + nI 2).toNatClampNeg), .int (xs (nI i + nI 3).toNatClampNeg)]) (rest := []) (fr' := fX11_date) (lo' := lX11_date) (bc' := 0) (bs' := 0) C dL_law_1055 zs_L_122 zi_X11_date (fun H hW _ => zRec_std zcl_11 (hS.has (a := 0) rfl rfl) hW) rfl rfl (Nat.le_of_ble_eq_true rfl) (Nat.le_of_ble_eq_true rfl) (Nat.le_of_ble_eq_true rfl) (show _ ≤ 600000 by omega) (show _ ≤ 7302250 by omega) ?_
  refine ZC.mono (fun w S' I' L' ⟨r, ew, k2⟩ => ?_) (sp_date hI g)
  subst ew
  show ZL G p l e room_1 s m args below meth c Z 1058 [.ref b, zo G 0, zo G 84, .int (nI i)] [.int r] S' I' L' (zN S + 0) (σ + 0) _
  refine zl_aload_n C dL_law_1058 rfl rfl ?_
  refine zl_aload_n C dL_law_1059 rfl rfl ?_
  refine zl_iload_n C dL_law_1060 rfl rfl ?_
  refine zl_iconst (v := nI 1) C dL_law_1061 (by decide) ?_
  refine zl_iadd C dL_law_1062 ?_
  refine zl_sld C hX hb hB dL_law_1063 (hin 1 (by decide)) ?_
  refine zl_aload_n C dL_law_1064 rfl rfl ?_
  refine zl_iload_n C dL_law_1065 rfl rfl ?_
  refine zl_iconst (v := nI 2) C dL_law_1066 (by decide) ?_
  refine zl_iadd C dL_law_1067 ?_
  refine zl_sld C hX hb hB dL_law_1068 (hin 2 (by decide)) ?_
  refine zl_aload_n C dL_law_1069 rfl rfl ?_
  refine zl_iload_n C dL_law_1070 rfl rfl ?_
  refine zl_iconst (v := nI 3) C dL_law_1071 (by decide) ?_
  refine zl_iadd C dL_law_1072 ?_
  refine zl_sld C hX hb hB dL_law_1073 (hin 3 (by decide)) ?_
  refine zl_callV (o := 84) (As := [.int (xs (nI i + nI 1).toNatClampNeg), .int (xs (nI i + nI 2).toNatClampNeg), .int (xs (nI i + nI 3).toNatClampNeg)]) (rest := [.int r]) (fr' := fX12_date) (lo' := lX12_date) (bc' := 0) (bs' := 0) C dL_law_1074 zs_L_125 zi_X12_date (fun H' hW ⟨H, h1, _, h3⟩ => zRec_sm h1.2.1 h3) rfl rfl (Nat.le_of_ble_eq_true rfl) (Nat.le_of_ble_eq_true rfl) (Nat.le_of_ble_eq_true rfl) (show _ ≤ 600000 by omega) (show _ ≤ 7302250 by omega) ?_
  refine ZC.mono (fun w S'' I'' L'' ⟨ew, σ', q1, q2, q3⟩ => ?_) k2
  subst ew
  show ZL G p l e room_1 s m args below meth c Z 1077 [.ref b, zo G 0, zo G 84, .int (nI i)] [.int r, .int r] S'' I'' L'' (zN S + 0 + 0) (σ + 0 + 0) _
  refine zl_iceq (tgt := 1280) C dL_law_1077 (by decide) (fun _ => ?_) (fun no => absurd rfl no)
  exact zl_nar hB (fun H hW hp => p2_use q1 hW hp) (next S'' I'' L'' σ' q2 q3)
theorem lc_26 {G : Gp} {p : Program} {l : Launch} {e : Env} {s : State} {m : MethodId} {args : Array Value} {below : List Frame} {meth : Method} {c : Code} {Z : State → Prop} {b Ln i σ : Nat} {xs : Nat → Int32} {S : zSh} {I : zFI} {L : zFL} (C : ZCx G (zLaw meth.name) 13 510 p room_1 s m args meth c) (hX : va_X b Ln xs s s.heap) (hb : b < gB G) (hB : gB G = s.heap.size) (hi : i + 6 ≤ Ln) (hLn : Ln ≤ 3072) (hI : zIn S I L) (g : zBg S σ) (next : ∀ (S' : zSh) (I' : zFI) (L' : zFL) (σ' : Nat), zIn S' I' L' → zBg S' σ' → ZL G p l e room_1 s m args below meth c Z 1280 [.ref b, zo G 0, zo G 84, .int (nI i)] [] S' I' L' (zN S') σ' (zP0 G s S' σ')) : ZL G p l e room_1 s m args below meth c Z 1082 [.ref b, zo G 0, zo G 84, .int (nI i)] [] S I L (zN S) σ (zP0 G s S σ) := by
  have hin := sc_in hi hLn
  have hS := hI.std
  have hr := bg_room g
  refine zl_aload_n C dL_law_1082 rfl rfl ?_
  refine zl_aload_n C dL_law_1083 rfl rfl ?_
  refine zl_iload_n C dL_law_1084 rfl rfl ?_
  refine zl_iconst (v := nI 1) C dL_law_1085 (by decide) ?_
  refine zl_iadd C dL_law_1086 ?_
  refine zl_sld C hX hb hB dL_law_1087 (hin 1 (by decide)) ?_
  refine zl_aload_n C dL_law_1088 rfl rfl ?_
  refine zl_iload_n C dL_law_1089 rfl rfl ?_
  refine zl_iconst (v := nI 2) C dL_law_1090 (by decide) ?_
  refine zl_iadd C dL_law_1091 ?_
  refine zl_sld C hX hb hB dL_law_1092 (hin 2 (by decide)) ?_
  refine zl_aload_n C dL_law_1093 rfl rfl ?_
  refine zl_iload_n C dL_law_1094 rfl rfl ?_
  refine zl_iconst (v := nI 3) C dL_law_1095 (by decide) ?_
  refine zl_iadd C dL_law_1096 ?_
  refine zl_sld C hX hb hB dL_law_1097 (hin 3 (by decide)) ?_
  refine zl_callV (o := 0) (As := [.int (xs (nI i + nI 1).toNatClampNeg), .int (xs (nI i + nI 2).toNatClampNeg), .int (xs (nI i + nI 3).toNatClampNeg)]) (rest := []) (fr' := fX11_built) (lo' := lX11_built) (bc' := 0) (bs' := 0) C dL_law_1098 zs_L_126 zi_X11_built (fun H hW _ => zRec_std zcl_11 (hS.has (a := 0) rfl rfl) hW) rfl rfl (Nat.le_of_ble_eq_true rfl) (Nat.le_of_ble_eq_true rfl) (Nat.le_of_ble_eq_true rfl) (show _ ≤ 600000 by omega) (show _ ≤ 7302250 by omega) ?_
  refine ZC.mono (fun w S' I' L' ⟨r, ew, k2⟩ => ?_) (sp_built hI g)
  subst ew
  show ZL G p l e room_1 s m args below meth c Z 1101 [.ref b, zo G 0, zo G 84, .int (nI i)] [.int r] S' I' L' (zN S + 0) (σ + 0) _
  refine zl_aload_n C dL_law_1101 rfl rfl ?_
  refine zl_aload_n C dL_law_1102 rfl rfl ?_
  refine zl_iload_n C dL_law_1103 rfl rfl ?_
  refine zl_iconst (v := nI 1) C dL_law_1104 (by decide) ?_
  refine zl_iadd C dL_law_1105 ?_
  refine zl_sld C hX hb hB dL_law_1106 (hin 1 (by decide)) ?_
  refine zl_aload_n C dL_law_1107 rfl rfl ?_
  refine zl_iload_n C dL_law_1108 rfl rfl ?_
  refine zl_iconst (v := nI 2) C dL_law_1109 (by decide) ?_
  refine zl_iadd C dL_law_1110 ?_
  refine zl_sld C hX hb hB dL_law_1111 (hin 2 (by decide)) ?_
  refine zl_aload_n C dL_law_1112 rfl rfl ?_
  refine zl_iload_n C dL_law_1113 rfl rfl ?_
  refine zl_iconst (v := nI 3) C dL_law_1114 (by decide) ?_
  refine zl_iadd C dL_law_1115 ?_
  refine zl_sld C hX hb hB dL_law_1116 (hin 3 (by decide)) ?_
  refine zl_callV (o := 84) (As := [.int (xs (nI i + nI 1).toNatClampNeg), .int (xs (nI i + nI 2).toNatClampNeg), .int (xs (nI i + nI 3).toNatClampNeg)]) (rest := [.int r]) (fr' := fX12_built) (lo' := lX12_built) (bc' := 0) (bs' := 0) C dL_law_1117 zs_L_129 zi_X12_built (fun H' hW ⟨H, h1, _, h3⟩ => zRec_sm h1.2.1 h3) rfl rfl (Nat.le_of_ble_eq_true rfl) (Nat.le_of_ble_eq_true rfl) (Nat.le_of_ble_eq_true rfl) (show _ ≤ 600000 by omega) (show _ ≤ 7302250 by omega) ?_
  refine ZC.mono (fun w S'' I'' L'' ⟨ew, σ', q1, q2, q3⟩ => ?_) k2
  subst ew
  show ZL G p l e room_1 s m args below meth c Z 1120 [.ref b, zo G 0, zo G 84, .int (nI i)] [.int r, .int r] S'' I'' L'' (zN S + 0 + 0) (σ + 0 + 0) _
  refine zl_iceq (tgt := 1280) C dL_law_1120 (by decide) (fun _ => ?_) (fun no => absurd rfl no)
  exact zl_nar hB (fun H hW hp => p2_use q1 hW hp) (next S'' I'' L'' σ' q2 q3)
theorem lc_27 {G : Gp} {p : Program} {l : Launch} {e : Env} {s : State} {m : MethodId} {args : Array Value} {below : List Frame} {meth : Method} {c : Code} {Z : State → Prop} {b Ln i σ : Nat} {xs : Nat → Int32} {S : zSh} {I : zFI} {L : zFL} (C : ZCx G (zLaw meth.name) 13 510 p room_1 s m args meth c) (hX : va_X b Ln xs s s.heap) (hb : b < gB G) (hB : gB G = s.heap.size) (hi : i + 6 ≤ Ln) (hLn : Ln ≤ 3072) (hI : zIn S I L) (g : zBg S σ) (next : ∀ (S' : zSh) (I' : zFI) (L' : zFL) (σ' : Nat), zIn S' I' L' → zBg S' σ' → ZL G p l e room_1 s m args below meth c Z 1280 [.ref b, zo G 0, zo G 84, .int (nI i)] [] S' I' L' (zN S') σ' (zP0 G s S' σ')) : ZL G p l e room_1 s m args below meth c Z 1125 [.ref b, zo G 0, zo G 84, .int (nI i)] [] S I L (zN S) σ (zP0 G s S σ) := by
  have hin := sc_in hi hLn
  have hS := hI.std
  have hr := bg_room g
  refine zl_aload_n C dL_law_1125 rfl rfl ?_
  refine zl_aload_n C dL_law_1126 rfl rfl ?_
  refine zl_iload_n C dL_law_1127 rfl rfl ?_
  refine zl_iconst (v := nI 1) C dL_law_1128 (by decide) ?_
  refine zl_iadd C dL_law_1129 ?_
  refine zl_sld C hX hb hB dL_law_1130 (hin 1 (by decide)) ?_
  refine zl_aload_n C dL_law_1131 rfl rfl ?_
  refine zl_iload_n C dL_law_1132 rfl rfl ?_
  refine zl_iconst (v := nI 2) C dL_law_1133 (by decide) ?_
  refine zl_iadd C dL_law_1134 ?_
  refine zl_sld C hX hb hB dL_law_1135 (hin 2 (by decide)) ?_
  refine zl_aload_n C dL_law_1136 rfl rfl ?_
  refine zl_iload_n C dL_law_1137 rfl rfl ?_
  refine zl_iconst (v := nI 3) C dL_law_1138 (by decide) ?_
  refine zl_iadd C dL_law_1139 ?_
  refine zl_sld C hX hb hB dL_law_1140 (hin 3 (by decide)) ?_
  refine zl_callV (o := 0) (As := [.int (xs (nI i + nI 1).toNatClampNeg), .int (xs (nI i + nI 2).toNatClampNeg), .int (xs (nI i + nI 3).toNatClampNeg)]) (rest := []) (fr' := fX11_lean) (lo' := lX11_lean) (bc' := 0) (bs' := 0) C dL_law_1141 zs_L_130 zi_X11_lean (fun H hW _ => zRec_std zcl_11 (hS.has (a := 0) rfl rfl) hW) rfl rfl (Nat.le_of_ble_eq_true rfl) (Nat.le_of_ble_eq_true rfl) (Nat.le_of_ble_eq_true rfl) (show _ ≤ 600000 by omega) (show _ ≤ 7302250 by omega) ?_
  refine ZC.mono (fun w S' I' L' ⟨r, ew, k2⟩ => ?_) (sp_lean hI g)
  subst ew
  show ZL G p l e room_1 s m args below meth c Z 1144 [.ref b, zo G 0, zo G 84, .int (nI i)] [.int r] S' I' L' (zN S + 0) (σ + 0) _
  refine zl_aload_n C dL_law_1144 rfl rfl ?_
  refine zl_aload_n C dL_law_1145 rfl rfl ?_
  refine zl_iload_n C dL_law_1146 rfl rfl ?_
  refine zl_iconst (v := nI 1) C dL_law_1147 (by decide) ?_
  refine zl_iadd C dL_law_1148 ?_
  refine zl_sld C hX hb hB dL_law_1149 (hin 1 (by decide)) ?_
  refine zl_aload_n C dL_law_1150 rfl rfl ?_
  refine zl_iload_n C dL_law_1151 rfl rfl ?_
  refine zl_iconst (v := nI 2) C dL_law_1152 (by decide) ?_
  refine zl_iadd C dL_law_1153 ?_
  refine zl_sld C hX hb hB dL_law_1154 (hin 2 (by decide)) ?_
  refine zl_aload_n C dL_law_1155 rfl rfl ?_
  refine zl_iload_n C dL_law_1156 rfl rfl ?_
  refine zl_iconst (v := nI 3) C dL_law_1157 (by decide) ?_
  refine zl_iadd C dL_law_1158 ?_
  refine zl_sld C hX hb hB dL_law_1159 (hin 3 (by decide)) ?_
  refine zl_callV (o := 84) (As := [.int (xs (nI i + nI 1).toNatClampNeg), .int (xs (nI i + nI 2).toNatClampNeg), .int (xs (nI i + nI 3).toNatClampNeg)]) (rest := [.int r]) (fr' := fX12_lean) (lo' := lX12_lean) (bc' := 0) (bs' := 0) C dL_law_1160 zs_L_134 zi_X12_lean (fun H' hW ⟨H, h1, _, h3⟩ => zRec_sm h1.2.1 h3) rfl rfl (Nat.le_of_ble_eq_true rfl) (Nat.le_of_ble_eq_true rfl) (Nat.le_of_ble_eq_true rfl) (show _ ≤ 600000 by omega) (show _ ≤ 7302250 by omega) ?_
  refine ZC.mono (fun w S'' I'' L'' ⟨ew, σ', q1, q2, q3⟩ => ?_) k2
  subst ew
  show ZL G p l e room_1 s m args below meth c Z 1163 [.ref b, zo G 0, zo G 84, .int (nI i)] [.int r, .int r] S'' I'' L'' (zN S + 0 + 0) (σ + 0 + 0) _
  refine zl_iceq (tgt := 1280) C dL_law_1163 (by decide) (fun _ => ?_) (fun no => absurd rfl no)
  exact zl_nar hB (fun H hW hp => p2_use q1 hW hp) (next S'' I'' L'' σ' q2 q3)
theorem lc_28 {G : Gp} {p : Program} {l : Launch} {e : Env} {s : State} {m : MethodId} {args : Array Value} {below : List Frame} {meth : Method} {c : Code} {Z : State → Prop} {b Ln i σ : Nat} {xs : Nat → Int32} {S : zSh} {I : zFI} {L : zFL} (C : ZCx G (zLaw meth.name) 13 510 p room_1 s m args meth c) (hX : va_X b Ln xs s s.heap) (hb : b < gB G) (hB : gB G = s.heap.size) (hi : i + 6 ≤ Ln) (hLn : Ln ≤ 3072) (hI : zIn S I L) (g : zBg S σ) (next : ∀ (S' : zSh) (I' : zFI) (L' : zFL) (σ' : Nat), zIn S' I' L' → zBg S' σ' → ZL G p l e room_1 s m args below meth c Z 1280 [.ref b, zo G 0, zo G 84, .int (nI i)] [] S' I' L' (zN S') σ' (zP0 G s S' σ')) : ZL G p l e room_1 s m args below meth c Z 1168 [.ref b, zo G 0, zo G 84, .int (nI i)] [] S I L (zN S) σ (zP0 G s S σ) := by
  have hin := sc_in hi hLn
  have hS := hI.std
  have hr := bg_room g
  refine zl_aload_n C dL_law_1168 rfl rfl ?_
  refine zl_aload_n C dL_law_1169 rfl rfl ?_
  refine zl_iload_n C dL_law_1170 rfl rfl ?_
  refine zl_iconst (v := nI 1) C dL_law_1171 (by decide) ?_
  refine zl_iadd C dL_law_1172 ?_
  refine zl_sld C hX hb hB dL_law_1173 (hin 1 (by decide)) ?_
  refine zl_aload_n C dL_law_1174 rfl rfl ?_
  refine zl_iload_n C dL_law_1175 rfl rfl ?_
  refine zl_iconst (v := nI 2) C dL_law_1176 (by decide) ?_
  refine zl_iadd C dL_law_1177 ?_
  refine zl_sld C hX hb hB dL_law_1178 (hin 2 (by decide)) ?_
  refine zl_callV (o := 0) (As := [.int (xs (nI i + nI 1).toNatClampNeg), .int (xs (nI i + nI 2).toNatClampNeg)]) (rest := []) (fr' := fX11_leans) (lo' := lX11_leans) (bc' := 0) (bs' := 0) C dL_law_1179 zs_L_135 zi_X11_leans (fun H hW _ => zRec_std zcl_11 (hS.has (a := 0) rfl rfl) hW) rfl rfl (Nat.le_of_ble_eq_true rfl) (Nat.le_of_ble_eq_true rfl) (Nat.le_of_ble_eq_true rfl) (show _ ≤ 600000 by omega) (show _ ≤ 7302250 by omega) ?_
  refine ZC.mono (fun w S' I' L' ⟨r, ew, k2⟩ => ?_) (sp_leans hI g)
  subst ew
  show ZL G p l e room_1 s m args below meth c Z 1182 [.ref b, zo G 0, zo G 84, .int (nI i)] [.int r] S' I' L' (zN S + 0) (σ + 0) _
  refine zl_aload_n C dL_law_1182 rfl rfl ?_
  refine zl_aload_n C dL_law_1183 rfl rfl ?_
  refine zl_iload_n C dL_law_1184 rfl rfl ?_
  refine zl_iconst (v := nI 1) C dL_law_1185 (by decide) ?_
  refine zl_iadd C dL_law_1186 ?_
  refine zl_sld C hX hb hB dL_law_1187 (hin 1 (by decide)) ?_
  refine zl_aload_n C dL_law_1188 rfl rfl ?_
  refine zl_iload_n C dL_law_1189 rfl rfl ?_
  refine zl_iconst (v := nI 2) C dL_law_1190 (by decide) ?_
  refine zl_iadd C dL_law_1191 ?_
  refine zl_sld C hX hb hB dL_law_1192 (hin 2 (by decide)) ?_
  refine zl_callV (o := 84) (As := [.int (xs (nI i + nI 1).toNatClampNeg), .int (xs (nI i + nI 2).toNatClampNeg)]) (rest := [.int r]) (fr' := fX12_leans) (lo' := lX12_leans) (bc' := 0) (bs' := 0) C dL_law_1193 zs_L_138 zi_X12_leans (fun H' hW ⟨H, h1, _, h3⟩ => zRec_sm h1.2.1 h3) rfl rfl (Nat.le_of_ble_eq_true rfl) (Nat.le_of_ble_eq_true rfl) (Nat.le_of_ble_eq_true rfl) (show _ ≤ 600000 by omega) (show _ ≤ 7302250 by omega) ?_
  refine ZC.mono (fun w S'' I'' L'' ⟨ew, σ', q1, q2, q3⟩ => ?_) k2
  subst ew
  show ZL G p l e room_1 s m args below meth c Z 1196 [.ref b, zo G 0, zo G 84, .int (nI i)] [.int r, .int r] S'' I'' L'' (zN S + 0 + 0) (σ + 0 + 0) _
  refine zl_iceq (tgt := 1280) C dL_law_1196 (by decide) (fun _ => ?_) (fun no => absurd rfl no)
  exact zl_nar hB (fun H hW hp => p2_use q1 hW hp) (next S'' I'' L'' σ' q2 q3)
theorem lc_29 {G : Gp} {p : Program} {l : Launch} {e : Env} {s : State} {m : MethodId} {args : Array Value} {below : List Frame} {meth : Method} {c : Code} {Z : State → Prop} {b Ln i σ : Nat} {xs : Nat → Int32} {S : zSh} {I : zFI} {L : zFL} (C : ZCx G (zLaw meth.name) 13 510 p room_1 s m args meth c) (hX : va_X b Ln xs s s.heap) (hb : b < gB G) (hB : gB G = s.heap.size) (hi : i + 6 ≤ Ln) (hLn : Ln ≤ 3072) (hI : zIn S I L) (g : zBg S σ) (next : ∀ (S' : zSh) (I' : zFI) (L' : zFL) (σ' : Nat), zIn S' I' L' → zBg S' σ' → ZL G p l e room_1 s m args below meth c Z 1280 [.ref b, zo G 0, zo G 84, .int (nI i)] [] S' I' L' (zN S') σ' (zP0 G s S' σ')) : ZL G p l e room_1 s m args below meth c Z 1201 [.ref b, zo G 0, zo G 84, .int (nI i)] [] S I L (zN S) σ (zP0 G s S σ) := by
  have hin := sc_in hi hLn
  have hS := hI.std
  have hr := bg_room g
  refine zl_aload_n C dL_law_1201 rfl rfl ?_
  refine zl_aload_n C dL_law_1202 rfl rfl ?_
  refine zl_iload_n C dL_law_1203 rfl rfl ?_
  refine zl_iconst (v := nI 1) C dL_law_1204 (by decide) ?_
  refine zl_iadd C dL_law_1205 ?_
  refine zl_sld C hX hb hB dL_law_1206 (hin 1 (by decide)) ?_
  refine zl_aload_n C dL_law_1207 rfl rfl ?_
  refine zl_iload_n C dL_law_1208 rfl rfl ?_
  refine zl_iconst (v := nI 2) C dL_law_1209 (by decide) ?_
  refine zl_iadd C dL_law_1210 ?_
  refine zl_sld C hX hb hB dL_law_1211 (hin 2 (by decide)) ?_
  refine zl_callV (o := 0) (As := [.int (xs (nI i + nI 1).toNatClampNeg), .int (xs (nI i + nI 2).toNatClampNeg)]) (rest := []) (fr' := fX11_falls) (lo' := lX11_falls) (bc' := 0) (bs' := 0) C dL_law_1212 zs_L_139 zi_X11_falls (fun H hW _ => zRec_std zcl_11 (hS.has (a := 0) rfl rfl) hW) rfl rfl (Nat.le_of_ble_eq_true rfl) (Nat.le_of_ble_eq_true rfl) (Nat.le_of_ble_eq_true rfl) (show _ ≤ 600000 by omega) (show _ ≤ 7302250 by omega) ?_
  refine ZC.mono (fun w S' I' L' ⟨r, ew, k2⟩ => ?_) (sp_falls hI g)
  subst ew
  show ZL G p l e room_1 s m args below meth c Z 1215 [.ref b, zo G 0, zo G 84, .int (nI i)] [.int r] S' I' L' (zN S + 0) (σ + 0) _
  refine zl_aload_n C dL_law_1215 rfl rfl ?_
  refine zl_aload_n C dL_law_1216 rfl rfl ?_
  refine zl_iload_n C dL_law_1217 rfl rfl ?_
  refine zl_iconst (v := nI 1) C dL_law_1218 (by decide) ?_
  refine zl_iadd C dL_law_1219 ?_
  refine zl_sld C hX hb hB dL_law_1220 (hin 1 (by decide)) ?_
  refine zl_aload_n C dL_law_1221 rfl rfl ?_
  refine zl_iload_n C dL_law_1222 rfl rfl ?_
  refine zl_iconst (v := nI 2) C dL_law_1223 (by decide) ?_
  refine zl_iadd C dL_law_1224 ?_
  refine zl_sld C hX hb hB dL_law_1225 (hin 2 (by decide)) ?_
  refine zl_callV (o := 84) (As := [.int (xs (nI i + nI 1).toNatClampNeg), .int (xs (nI i + nI 2).toNatClampNeg)]) (rest := [.int r]) (fr' := fX12_falls) (lo' := lX12_falls) (bc' := 0) (bs' := 0) C dL_law_1226 zs_L_142 zi_X12_falls (fun H' hW ⟨H, h1, _, h3⟩ => zRec_sm h1.2.1 h3) rfl rfl (Nat.le_of_ble_eq_true rfl) (Nat.le_of_ble_eq_true rfl) (Nat.le_of_ble_eq_true rfl) (show _ ≤ 600000 by omega) (show _ ≤ 7302250 by omega) ?_
  refine ZC.mono (fun w S'' I'' L'' ⟨ew, σ', q1, q2, q3⟩ => ?_) k2
  subst ew
  show ZL G p l e room_1 s m args below meth c Z 1229 [.ref b, zo G 0, zo G 84, .int (nI i)] [.int r, .int r] S'' I'' L'' (zN S + 0 + 0) (σ + 0 + 0) _
  refine zl_iceq (tgt := 1280) C dL_law_1229 (by decide) (fun _ => ?_) (fun no => absurd rfl no)
  exact zl_nar hB (fun H hW hp => p2_use q1 hW hp) (next S'' I'' L'' σ' q2 q3)
theorem lc_30 {G : Gp} {p : Program} {l : Launch} {e : Env} {s : State} {m : MethodId} {args : Array Value} {below : List Frame} {meth : Method} {c : Code} {Z : State → Prop} {b Ln i σ : Nat} {xs : Nat → Int32} {S : zSh} {I : zFI} {L : zFL} (C : ZCx G (zLaw meth.name) 13 510 p room_1 s m args meth c) (hX : va_X b Ln xs s s.heap) (hb : b < gB G) (hB : gB G = s.heap.size) (hi : i + 6 ≤ Ln) (hLn : Ln ≤ 3072) (hI : zIn S I L) (g : zBg S σ) (next : ∀ (S' : zSh) (I' : zFI) (L' : zFL) (σ' : Nat), zIn S' I' L' → zBg S' σ' → ZL G p l e room_1 s m args below meth c Z 1280 [.ref b, zo G 0, zo G 84, .int (nI i)] [] S' I' L' (zN S') σ' (zP0 G s S' σ')) : ZL G p l e room_1 s m args below meth c Z 1234 [.ref b, zo G 0, zo G 84, .int (nI i)] [] S I L (zN S) σ (zP0 G s S σ) := by
  have hin := sc_in hi hLn
  have hS := hI.std
  have hr := bg_room g
  refine zl_aload_n C dL_law_1234 rfl rfl ?_
  refine zl_aload_n C dL_law_1235 rfl rfl ?_
  refine zl_iload_n C dL_law_1236 rfl rfl ?_
  refine zl_iconst (v := nI 1) C dL_law_1237 (by decide) ?_
  refine zl_iadd C dL_law_1238 ?_
  refine zl_sld C hX hb hB dL_law_1239 (hin 1 (by decide)) ?_
  refine zl_callV (o := 0) (As := [.int (xs (nI i + nI 1).toNatClampNeg)]) (rest := []) (fr' := fX11_write) (lo' := lX11_write) (bc' := 0) (bs' := 0) C dL_law_1240 zs_L_143 zi_X11_write (fun H hW _ => zRec_std zcl_11 (hS.has (a := 0) rfl rfl) hW) rfl rfl (Nat.le_of_ble_eq_true rfl) (Nat.le_of_ble_eq_true rfl) (Nat.le_of_ble_eq_true rfl) (show _ ≤ 600000 by omega) (show _ ≤ 7302250 by omega) ?_
  refine ZC.mono (fun w S' I' L' ⟨r, ew, k2⟩ => ?_) (sp_write hI g)
  subst ew
  show ZL G p l e room_1 s m args below meth c Z 1243 [.ref b, zo G 0, zo G 84, .int (nI i)] [.int r] S' I' L' (zN S + 0) (σ + 0) _
  refine zl_aload_n C dL_law_1243 rfl rfl ?_
  refine zl_aload_n C dL_law_1244 rfl rfl ?_
  refine zl_iload_n C dL_law_1245 rfl rfl ?_
  refine zl_iconst (v := nI 1) C dL_law_1246 (by decide) ?_
  refine zl_iadd C dL_law_1247 ?_
  refine zl_sld C hX hb hB dL_law_1248 (hin 1 (by decide)) ?_
  refine zl_callV (o := 84) (As := [.int (xs (nI i + nI 1).toNatClampNeg)]) (rest := [.int r]) (fr' := fX12_write) (lo' := lX12_write) (bc' := 0) (bs' := 0) C dL_law_1249 zs_L_146 zi_X12_write (fun H' hW ⟨H, h1, _, h3⟩ => zRec_sm h1.2.1 h3) rfl rfl (Nat.le_of_ble_eq_true rfl) (Nat.le_of_ble_eq_true rfl) (Nat.le_of_ble_eq_true rfl) (show _ ≤ 600000 by omega) (show _ ≤ 7302250 by omega) ?_
  refine ZC.mono (fun w S'' I'' L'' ⟨ew, σ', q1, q2, q3⟩ => ?_) k2
  subst ew
  show ZL G p l e room_1 s m args below meth c Z 1252 [.ref b, zo G 0, zo G 84, .int (nI i)] [.int r, .int r] S'' I'' L'' (zN S + 0 + 0) (σ + 0 + 0) _
  refine zl_iceq (tgt := 1280) C dL_law_1252 (by decide) (fun _ => ?_) (fun no => absurd rfl no)
  exact zl_nar hB (fun H hW hp => p2_use q1 hW hp) (next S'' I'' L'' σ' q2 q3)
theorem lc_31 {G : Gp} {p : Program} {l : Launch} {e : Env} {s : State} {m : MethodId} {args : Array Value} {below : List Frame} {meth : Method} {c : Code} {Z : State → Prop} {b Ln i σ : Nat} {xs : Nat → Int32} {S : zSh} {I : zFI} {L : zFL} (C : ZCx G (zLaw meth.name) 13 510 p room_1 s m args meth c) (hX : va_X b Ln xs s s.heap) (hb : b < gB G) (hB : gB G = s.heap.size) (hi : i + 6 ≤ Ln) (hLn : Ln ≤ 3072) (hI : zIn S I L) (g : zBg S σ) (next : ∀ (S' : zSh) (I' : zFI) (L' : zFL) (σ' : Nat), zIn S' I' L' → zBg S' σ' → ZL G p l e room_1 s m args below meth c Z 1280 [.ref b, zo G 0, zo G 84, .int (nI i)] [] S' I' L' (zN S') σ' (zP0 G s S' σ')) : ZL G p l e room_1 s m args below meth c Z 1257 [.ref b, zo G 0, zo G 84, .int (nI i)] [] S I L (zN S) σ (zP0 G s S σ) := by
  have hin := sc_in hi hLn
  have hS := hI.std
  have hr := bg_room g
  refine zl_aload_n C dL_law_1257 rfl rfl ?_
  refine zl_aload_n C dL_law_1258 rfl rfl ?_
  refine zl_iload_n C dL_law_1259 rfl rfl ?_
  refine zl_iconst (v := nI 1) C dL_law_1260 (by decide) ?_
  refine zl_iadd C dL_law_1261 ?_
  refine zl_sld C hX hb hB dL_law_1262 (hin 1 (by decide)) ?_
  refine zl_callV (o := 0) (As := [.int (xs (nI i + nI 1).toNatClampNeg)]) (rest := []) (fr' := fX11_out) (lo' := lX11_out) (bc' := 0) (bs' := 0) C dL_law_1263 zs_L_147 zi_X11_out (fun H hW _ => zRec_std zcl_11 (hS.has (a := 0) rfl rfl) hW) rfl rfl (Nat.le_of_ble_eq_true rfl) (Nat.le_of_ble_eq_true rfl) (Nat.le_of_ble_eq_true rfl) (show _ ≤ 600000 by omega) (show _ ≤ 7302250 by omega) ?_
  refine ZC.mono (fun w S' I' L' ⟨r, ew, k2⟩ => ?_) (sp_out hI g)
  subst ew
  show ZL G p l e room_1 s m args below meth c Z 1266 [.ref b, zo G 0, zo G 84, .int (nI i)] [.int r] S' I' L' (zN S + 0) (σ + 0) _
  refine zl_aload_n C dL_law_1266 rfl rfl ?_
  refine zl_aload_n C dL_law_1267 rfl rfl ?_
  refine zl_iload_n C dL_law_1268 rfl rfl ?_
  refine zl_iconst (v := nI 1) C dL_law_1269 (by decide) ?_
  refine zl_iadd C dL_law_1270 ?_
  refine zl_sld C hX hb hB dL_law_1271 (hin 1 (by decide)) ?_
  refine zl_callV (o := 84) (As := [.int (xs (nI i + nI 1).toNatClampNeg)]) (rest := [.int r]) (fr' := fX12_out) (lo' := lX12_out) (bc' := 0) (bs' := 0) C dL_law_1272 zs_L_150 zi_X12_out (fun H' hW ⟨H, h1, _, h3⟩ => zRec_sm h1.2.1 h3) rfl rfl (Nat.le_of_ble_eq_true rfl) (Nat.le_of_ble_eq_true rfl) (Nat.le_of_ble_eq_true rfl) (show _ ≤ 600000 by omega) (show _ ≤ 7302250 by omega) ?_
  refine ZC.mono (fun w S'' I'' L'' ⟨ew, σ', q1, q2, q3⟩ => ?_) k2
  subst ew
  show ZL G p l e room_1 s m args below meth c Z 1275 [.ref b, zo G 0, zo G 84, .int (nI i)] [.int r, .int r] S'' I'' L'' (zN S + 0 + 0) (σ + 0 + 0) _
  refine zl_iceq (tgt := 1280) C dL_law_1275 (by decide) (fun _ => ?_) (fun no => absurd rfl no)
  exact zl_nar hB (fun H hW hp => p2_use q1 hW hp) (next S'' I'' L'' σ' q2 q3)
