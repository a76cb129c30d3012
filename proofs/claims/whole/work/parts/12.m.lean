theorem zmth_maxs : Cond.static Lib.Math.max.name ∈ ZTbl := zst_J9_max_7cf53
theorem zmth_maxc : Cond.code Lib.Math.max.name Lib.Math.max.code 2 (some .int) ∈ ZTbl := zcd_J9_max_7cf53
theorem zmth_mins : Cond.static Lib.Math.min.name ∈ ZTbl := zst_J9_min_7cf53
theorem zmth_minc : Cond.code Lib.Math.min.name Lib.Math.min.code 2 (some .int) ∈ ZTbl := zcd_J9_min_7cf53
theorem zmth_abss : Cond.static Lib.Math.abs.name ∈ ZTbl := zst_J9_abs_0f7a4
theorem zmth_absc : Cond.code Lib.Math.abs.name Lib.Math.abs.code 1 (some .int) ∈ ZTbl := zcd_J9_abs_0f7a4
theorem zmt_X6_58 : Cond.methodLink RX6 58 Lib.Math.max.name ∈ ZTbl := (zt_in 876 (by decide +kernel) (by decide +kernel))
theorem zmt_X7_91 : Cond.methodLink RX7 91 Lib.Math.min.name ∈ ZTbl := (zt_in 1187 (by decide +kernel) (by decide +kernel))
theorem zmt_X7_100 : Cond.methodLink RX7 100 Lib.Math.max.name ∈ ZTbl := (zt_in 1210 (by decide +kernel) (by decide +kernel))
theorem zmt_X8_72 : Cond.methodLink RX8 72 Lib.Math.min.name ∈ ZTbl := (zt_in 1286 (by decide +kernel) (by decide +kernel))
theorem zmt_X8_100 : Cond.methodLink RX8 100 Lib.Math.max.name ∈ ZTbl := (zt_in 1292 (by decide +kernel) (by decide +kernel))
theorem zmt_X5_54 : Cond.methodLink RX5 54 Lib.Math.abs.name ∈ ZTbl := (zt_in 1354 (by decide +kernel) (by decide +kernel))
section ZMATH
variable {G : Gp} {mi : Mi} {fr lo pc : Nat} {vs st : List Value} {S : zSh} {I : zFI} {L : zFL} {bc bs : Nat} {Q : zPost}
theorem zr_mmax {idx : Nat} {x y : Int32} (hd : decode mi.2.1 pc = .ok (.invokestatic idx, 3)) (hlink : Cond.methodLink mi.1.cls idx Lib.Math.max.name ∈ ZTbl) (hw : (st.map fun v => v.category).sum ≤ 8) (hfr : 1 ≤ fr) (hlo : (st.map fun v => v.category).sum + 13 ≤ lo)
    (kk : ZW G mi fr lo (pc + 3) vs (.int (if x < y then y else x) :: st) S I L bc bs Q) : ZW G mi fr lo pc vs (.int y :: .int x :: st) S I L bc bs Q := by
  intro p l e R s m args below meth c H locs cells slots ls Z C hW hS hl hc hs hk
  have hts := C.2.2.2.2.1
  have hf := C.2.2.2.2.2.2.2.1
  have hlo2 := C.2.2.2.2.2.2.2.2
  exact va_mmax C.1 C.2.1 (C.2.2.1.trans hl.1.symm) C.2.2.2.1 (hts _ hlink) (hts _ zmth_maxs) (hts _ zini_J9) (hts _ zmth_maxc) (by omega) (by omega) (by omega) (by omega) hd (kk p l e R s m args below meth c H locs cells slots ls Z C hW hS hl hc hs hk)
theorem zr_mmin {idx : Nat} {x y : Int32} (hd : decode mi.2.1 pc = .ok (.invokestatic idx, 3)) (hlink : Cond.methodLink mi.1.cls idx Lib.Math.min.name ∈ ZTbl) (hw : (st.map fun v => v.category).sum ≤ 8) (hfr : 1 ≤ fr) (hlo : (st.map fun v => v.category).sum + 13 ≤ lo)
    (kk : ZW G mi fr lo (pc + 3) vs (.int (if y < x then y else x) :: st) S I L bc bs Q) : ZW G mi fr lo pc vs (.int y :: .int x :: st) S I L bc bs Q := by
  intro p l e R s m args below meth c H locs cells slots ls Z C hW hS hl hc hs hk
  have hts := C.2.2.2.2.1
  have hf := C.2.2.2.2.2.2.2.1
  have hlo2 := C.2.2.2.2.2.2.2.2
  exact va_mmin C.1 C.2.1 (C.2.2.1.trans hl.1.symm) C.2.2.2.1 (hts _ hlink) (hts _ zmth_mins) (hts _ zini_J9) (hts _ zmth_minc) (by omega) (by omega) (by omega) (by omega) hd (kk p l e R s m args below meth c H locs cells slots ls Z C hW hS hl hc hs hk)
theorem zr_mabs {idx : Nat} {x : Int32} (hd : decode mi.2.1 pc = .ok (.invokestatic idx, 3)) (hlink : Cond.methodLink mi.1.cls idx Lib.Math.abs.name ∈ ZTbl) (hw : (st.map fun v => v.category).sum ≤ 8) (hfr : 1 ≤ fr) (hlo : (st.map fun v => v.category).sum + 13 ≤ lo)
    (kk : ZW G mi fr lo (pc + 3) vs (.int (if 0 ≤ x then x else 0 - x) :: st) S I L bc bs Q) : ZW G mi fr lo pc vs (.int x :: st) S I L bc bs Q := by
  intro p l e R s m args below meth c H locs cells slots ls Z C hW hS hl hc hs hk
  have hts := C.2.2.2.2.1
  have hf := C.2.2.2.2.2.2.2.1
  have hlo2 := C.2.2.2.2.2.2.2.2
  exact va_mabs C.1 C.2.1 (C.2.2.1.trans hl.1.symm) C.2.2.2.1 (hts _ hlink) (hts _ zmth_abss) (hts _ zini_J9) (hts _ zmth_absc) (by omega) (by omega) (by omega) (by omega) hd (kk p l e R s m args below meth c H locs cells slots ls Z C hW hS hl hc hs hk)
theorem zr_getIv {idx ci k o : Nat} {fin : Bool} {x : Int32} (hd : decode mi.2.1 pc = .ok (.getfield idx, 3)) (hf : ZFl mi.1.cls idx ci k fin) (hc0 : zCd (zTy ci k) = 0) (ho : zHas S o (0, ci)) (hx : I o k = x)
    (kk : ZW G mi fr lo (pc + 3) vs (.int x :: st) S I L bc bs Q) : ZW G mi fr lo pc vs (zo G o :: st) S I L bc bs Q := zr_getI hd hf hc0 ho (hx ▸ kk)
theorem zr_getJv {idx ci k o : Nat} {fin : Bool} {x : Int64} (hd : decode mi.2.1 pc = .ok (.getfield idx, 3)) (hf : ZFl mi.1.cls idx ci k fin) (hc0 : zCd (zTy ci k) = 1) (ho : zHas S o (0, ci)) (hx : L o k = x)
    (kk : ZW G mi fr lo (pc + 3) vs (.long x :: st) S I L bc bs Q) : ZW G mi fr lo pc vs (zo G o :: st) S I L bc bs Q := zr_getJ hd hf hc0 ho (hx ▸ kk)
theorem zr_ialdv {a n : Nat} {i : Int32} {x : Int32} (hd : decode mi.2.1 pc = .ok (.iaload, 1)) (ho : zHas S a (1, n)) (hin : vp_in i n) (hx : I a i.toNatClampNeg = x)
    (kk : ZW G mi fr lo (pc + 1) vs (.int x :: st) S I L bc bs Q) : ZW G mi fr lo pc vs (.int i :: zo G a :: st) S I L bc bs Q := zr_iald hd ho hin (hx ▸ kk)
theorem zr_baldv {a n : Nat} {i : Int32} {x : Int32} (hd : decode mi.2.1 pc = .ok (.baload, 1)) (ho : zHas S a (3, n)) (hin : vp_in i n) (hx : I a i.toNatClampNeg = x)
    (kk : ZW G mi fr lo (pc + 1) vs (.int x :: st) S I L bc bs Q) : ZW G mi fr lo pc vs (.int i :: zo G a :: st) S I L bc bs Q := zr_bald hd ho hin (hx ▸ kk)
theorem zr_zaldv {a n : Nat} {i : Int32} {x : Int32} (hd : decode mi.2.1 pc = .ok (.baload, 1)) (ho : zHas S a (4, n)) (hin : vp_in i n) (hx : I a i.toNatClampNeg = x)
    (kk : ZW G mi fr lo (pc + 1) vs (.int x :: st) S I L bc bs Q) : ZW G mi fr lo pc vs (.int i :: zo G a :: st) S I L bc bs Q := zr_zald hd ho hin (hx ▸ kk)
theorem zr_laldv {a n : Nat} {i : Int32} {x : Int64} (hd : decode mi.2.1 pc = .ok (.laload, 1)) (ho : zHas S a (2, n)) (hin : vp_in i n) (hx : L a i.toNatClampNeg = x)
    (kk : ZW G mi fr lo (pc + 1) vs (.long x :: st) S I L bc bs Q) : ZW G mi fr lo pc vs (.int i :: zo G a :: st) S I L bc bs Q := zr_lald hd ho hin (hx ▸ kk)
end ZMATH
