def x1 (v : Int64) : Int64 := v - ((v.toUInt64 >>> ((1 : Int32).toInt64.toUInt64 &&& Int64.toUInt64 63)).toInt64 &&& (6148914691236517205 : Int64))
def x2 (v : Int64) : Int64 := (v &&& (3689348814741910323 : Int64)) + ((v.toUInt64 >>> ((2 : Int32).toInt64.toUInt64 &&& Int64.toUInt64 63)).toInt64 &&& (3689348814741910323 : Int64))
def x3 (v : Int64) : Int64 := (v + (v.toUInt64 >>> ((4 : Int32).toInt64.toUInt64 &&& Int64.toUInt64 63)).toInt64) &&& (1085102592571150095 : Int64)
def x4 (v : Int64) : Int64 := v + (v.toUInt64 >>> ((8 : Int32).toInt64.toUInt64 &&& Int64.toUInt64 63)).toInt64
def x5 (v : Int64) : Int64 := v + (v.toUInt64 >>> ((16 : Int32).toInt64.toUInt64 &&& Int64.toUInt64 63)).toInt64
def x6 (v : Int64) : Int64 := v + (v.toUInt64 >>> ((32 : Int32).toInt64.toUInt64 &&& Int64.toUInt64 63)).toInt64
def xN (v : Int64) : Nat := v.toBitVec.toNat
theorem xN_sh {v : Int64} {c : UInt64} (k d : Nat) (h : c.toNat % 64 = k) (hd : 2 ^ k = d) : xN (v.toUInt64 >>> c).toInt64 = xN v / d := by
  show (v.toUInt64 >>> c).toNat = _
  rw [UInt64.toNat_shiftRight, h, Nat.shiftRight_eq_div_pow, hd]
  rfl
theorem xN_and (a b : Int64) : xN (a &&& b) = xN a &&& xN b := by
  unfold xN
  rw [Int64.toBitVec_and, BitVec.toNat_and]
theorem xN_add {a b : Int64} (h : xN a + xN b < 18446744073709551616) : xN (a + b) = xN a + xN b := by
  unfold xN at *
  rw [Int64.toBitVec_add, BitVec.toNat_add, Nat.mod_eq_of_lt h]
theorem xN_sub {a b : Int64} (h : xN b ≤ xN a) : xN (a - b) = xN a - xN b := by
  unfold xN at *
  have := a.toBitVec.isLt
  have := b.toBitVec.isLt
  rw [Int64.toBitVec_sub, BitVec.toNat_sub]
  omega
theorem xN_lt (v : Int64) : xN v < 18446744073709551616 := v.toBitVec.isLt
theorem xc85 : xN (6148914691236517205 : Int64) = pm 85 8 := by
  rw [show pm 85 8 = 6148914691236517205 by decide +kernel]
  decide +kernel
theorem xc51 : xN (3689348814741910323 : Int64) = pm 51 8 := by
  rw [show pm 51 8 = 3689348814741910323 by decide +kernel]
  decide +kernel
theorem xc15 : xN (1085102592571150095 : Int64) = pm 15 8 := by
  rw [show pm 15 8 = 1085102592571150095 by decide +kernel]
  decide +kernel
theorem px_a (v : Int64) : xN (x3 (x2 (x1 v))) = pP 8 (xN v) := by
  have hx := xN_lt v
  obtain ⟨i1, i2, i3⟩ := pP_all 8 (xN v) hx
  have e1 : xN (x1 v) = pt (xN v) (pm 85 8) := by
    have s : xN ((v.toUInt64 >>> ((1 : Int32).toInt64.toUInt64 &&& Int64.toUInt64 63)).toInt64 &&& (6148914691236517205 : Int64)) = xN v / 2 &&& pm 85 8 := by
      rw [xN_and, xN_sh 1 2 (by decide +kernel) (by decide +kernel), xc85]
    unfold x1
    rw [xN_sub (by rw [s]; exact i1), s]
    rfl
  have e2 : xN (x2 (x1 v)) = pu (pt (xN v) (pm 85 8)) (pm 51 8) := by
    have s1 : xN (x1 v &&& (3689348814741910323 : Int64)) = xN (x1 v) &&& pm 51 8 := by rw [xN_and, xc51]
    have s2 : xN (((x1 v).toUInt64 >>> ((2 : Int32).toInt64.toUInt64 &&& Int64.toUInt64 63)).toInt64 &&& (3689348814741910323 : Int64)) = xN (x1 v) / 4 &&& pm 51 8 := by
      rw [xN_and, xN_sh 2 4 (by decide +kernel) (by decide +kernel), xc51]
    have l1 : (xN (x1 v) &&& pm 51 8) ≤ pm 51 8 := Nat.and_le_right
    have l2 : (xN (x1 v) / 4 &&& pm 51 8) ≤ pm 51 8 := Nat.and_le_right
    have l3 : pm 51 8 = 3689348814741910323 := by decide +kernel
    unfold x2
    rw [xN_add (by rw [s1, s2]; omega), s1, s2, e1]
    rfl
  have e3 : xN (x3 (x2 (x1 v))) = pP 8 (xN v) := by
    have s2 : xN ((x2 (x1 v)).toUInt64 >>> ((4 : Int32).toInt64.toUInt64 &&& Int64.toUInt64 63)).toInt64 = xN (x2 (x1 v)) / 16 := xN_sh 4 16 (by decide +kernel) (by decide +kernel)
    have l3 : pm 51 8 = 3689348814741910323 := by decide +kernel
    have l1 : pu (pt (xN v) (pm 85 8)) (pm 51 8) ≤ pm 51 8 + pm 51 8 := Nat.add_le_add Nat.and_le_right Nat.and_le_right
    unfold x3
    rw [xN_and, xN_add (by rw [s2, e2]; omega), s2, e2, ← i3, xc15]
    rfl
  exact e3
theorem sh6 {a b c d s t u v w : Nat} (h1 : s = a + 256 * t) (h2 : t = b + 256 * u) (ha : a ≤ 16) (hb : b ≤ 16) : s / 65536 = u := divB (a + 256 * b) u (by omega) (by omega)
theorem sh7 {a b c d s t u v w : Nat} (h1 : s = a + 256 * t) (h2 : t = b + 256 * u) (h3 : u = c + 256 * v) (h4 : v = d + 256 * w) (ha : a ≤ 32) (hb : b ≤ 32) (hc : c ≤ 32) (hd : d ≤ 32) : s / 4294967296 = w := divB (a + 256 * (b + 256 * (c + 256 * d))) w (by omega) (by omega)
theorem px_b {w : Int64} {c0 c1 c2 c3 c4 c5 c6 c7 : Nat} (p0 : c0 ≤ 8) (p1 : c1 ≤ 8) (p2 : c2 ≤ 8) (p3 : c3 ≤ 8) (p4 : c4 ≤ 8) (p5 : c5 ≤ 8) (p6 : c6 ≤ 8) (p7 : c7 ≤ 8) {r1 r2 r3 r4 r5 r6 r7 : Nat} (h0 : xN w = c0 + 256 * r1) (h1 : r1 = c1 + 256 * r2) (h2 : r2 = c2 + 256 * r3) (h3 : r3 = c3 + 256 * r4) (h4 : r4 = c4 + 256 * r5) (h5 : r5 = c5 + 256 * r6) (h6 : r6 = c6 + 256 * r7) (h7 : r7 = c7 + 256 * 0) : xN (x6 (x5 (x4 w))) % 128 = c0 + c1 + c2 + c3 + c4 + c5 + c6 + c7 := by
  have b7 : r7 ≤ 8 := by omega
  have b6 : r6 ≤ 2056 := by clear h0 h1 h2 h3 h4 h5 h7; omega
  have b5 : r5 ≤ 526344 := by clear h0 h1 h2 h3 h4 h6 h7; omega
  have b4 : r4 ≤ 134744072 := by clear h0 h1 h2 h3 h5 h6 h7; omega
  have b3 : r3 ≤ 34494482440 := by clear h0 h1 h2 h4 h5 h6 h7; omega
  have b2 : r2 ≤ 8830587504648 := by clear h0 h1 h3 h4 h5 h6 h7; omega
  have b1 : r1 ≤ 2260630401189896 := by clear h0 h2 h3 h4 h5 h6 h7; omega
  have b0 : xN w ≤ 578721382704613384 := by clear h1 h2 h3 h4 h5 h6 h7; omega
  have q1 : xN w / 256 = r1 := divB c0 r1 h0 (by clear h0 h1 h2 h3 h4 h5 h6 h7; omega)
  have e4 : xN (x4 w) = xN w + r1 := by
    have s2 : xN (w.toUInt64 >>> ((8 : Int32).toInt64.toUInt64 &&& Int64.toUInt64 63)).toInt64 = xN w / 256 := xN_sh 8 256 (by decide +kernel) (by decide +kernel)
    unfold x4
    rw [xN_add (by rw [s2, q1]; clear h0 h1 h2 h3 h4 h5 h6 h7; omega), s2, q1]
  have g0 : xN w + r1 = (c0 + c1) + 256 * (r1 + r2) := by clear h2 h3 h4 h5 h6 h7; omega
  have g1 : r1 + r2 = (c1 + c2) + 256 * (r2 + r3) := by clear h0 h3 h4 h5 h6 h7; omega
  have g2 : r2 + r3 = (c2 + c3) + 256 * (r3 + r4) := by clear h0 h1 h4 h5 h6 h7; omega
  have g3 : r3 + r4 = (c3 + c4) + 256 * (r4 + r5) := by clear h0 h1 h2 h5 h6 h7; omega
  have g4 : r4 + r5 = (c4 + c5) + 256 * (r5 + r6) := by clear h0 h1 h2 h3 h6 h7; omega
  have g5 : r5 + r6 = (c5 + c6) + 256 * (r6 + r7) := by clear h0 h1 h2 h3 h4 h7; omega
  have q2 : xN (x4 w) / 65536 = r2 + r3 := sh6 (a := c0 + c1) (b := c1 + c2) (c := 0) (d := 0) (v := 0) (w := 0) (e4.trans g0) g1 (by clear h0 h1 h2 h3 h4 h5 h6 h7 g0 g1 g2 g3 g4 g5 e4; omega) (by clear h0 h1 h2 h3 h4 h5 h6 h7 g0 g1 g2 g3 g4 g5 e4; omega)
  have e5 : xN (x5 (x4 w)) = (xN w + r1) + (r2 + r3) := by
    have s2 : xN ((x4 w).toUInt64 >>> ((16 : Int32).toInt64.toUInt64 &&& Int64.toUInt64 63)).toInt64 = xN (x4 w) / 65536 := xN_sh 16 65536 (by decide +kernel) (by decide +kernel)
    unfold x5
    rw [xN_add (by rw [s2, q2, e4]; clear h0 h1 h2 h3 h4 h5 h6 h7 g0 g1 g2 g3 g4 g5 q1 q2 s2 e4; omega), s2, q2, e4]
  have k0 : (xN w + r1) + (r2 + r3) = (c0 + c1 + (c2 + c3)) + 256 * ((r1 + r2) + (r3 + r4)) := by clear h0 h1 h2 h3 h4 h5 h6 h7 g1 g3 g4 g5 e4 e5 q1 q2; omega
  have k1 : (r1 + r2) + (r3 + r4) = (c1 + c2 + (c3 + c4)) + 256 * ((r2 + r3) + (r4 + r5)) := by clear h0 h1 h2 h3 h4 h5 h6 h7 g0 g2 g4 g5 e4 e5 q1 q2 k0; omega
  have k2 : (r2 + r3) + (r4 + r5) = (c2 + c3 + (c4 + c5)) + 256 * ((r3 + r4) + (r5 + r6)) := by clear h0 h1 h2 h3 h4 h5 h6 h7 g0 g1 g3 g5 e4 e5 q1 q2 k0 k1; omega
  have k3 : (r3 + r4) + (r5 + r6) = (c3 + c4 + (c5 + c6)) + 256 * ((r4 + r5) + (r6 + r7)) := by clear h0 h1 h2 h3 h4 h5 h6 h7 g0 g1 g2 g4 e4 e5 q1 q2 k0 k1 k2; omega
  have q3 : xN (x5 (x4 w)) / 4294967296 = (r4 + r5) + (r6 + r7) := sh7 (a := c0 + c1 + (c2 + c3)) (b := c1 + c2 + (c3 + c4)) (c := c2 + c3 + (c4 + c5)) (d := c3 + c4 + (c5 + c6)) (e5.trans k0) k1 k2 k3 (by clear h0 h1 h2 h3 h4 h5 h6 h7 g0 g1 g2 g3 g4 g5 e4 e5 q1 q2 k0 k1 k2 k3; omega) (by clear h0 h1 h2 h3 h4 h5 h6 h7 g0 g1 g2 g3 g4 g5 e4 e5 q1 q2 k0 k1 k2 k3; omega) (by clear h0 h1 h2 h3 h4 h5 h6 h7 g0 g1 g2 g3 g4 g5 e4 e5 q1 q2 k0 k1 k2 k3; omega) (by clear h0 h1 h2 h3 h4 h5 h6 h7 g0 g1 g2 g3 g4 g5 e4 e5 q1 q2 k0 k1 k2 k3; omega)
  have s2 : xN ((x5 (x4 w)).toUInt64 >>> ((32 : Int32).toInt64.toUInt64 &&& Int64.toUInt64 63)).toInt64 = xN (x5 (x4 w)) / 4294967296 := xN_sh 32 4294967296 (by decide +kernel) (by decide +kernel)
  unfold x6
  rw [xN_add (by rw [s2, q3, e5]; clear h0 h1 h2 h3 h4 h5 h6 h7 g0 g1 g2 g3 g4 g5 q1 q2 s2 e4 k0 k1 k2 k3; omega), s2, q3, e5]
  have m0 : (xN w + r1) + (r2 + r3) + ((r4 + r5) + (r6 + r7)) = (c0 + c1 + c2 + c3 + c4 + c5 + c6 + c7) + 128 * (2 * ((r1 + r2) + (r3 + r4) + ((r5 + r6) + r7))) := by
    clear h0 h1 h2 h3 h4 h5 g1 g2 g3 g5 e4 e5 q1 q2 q3 s2 k1 k2 k3 g0
    omega
  exact modB _ _ m0 (by clear h0 h1 h2 h3 h4 h5 h6 h7 g0 g1 g2 g3 g4 g5 q1 q2 s2 e4 k0 k1 k2 k3; omega)
theorem p8_next (x n k : Nat) (h : n = 8 + k) : zcnt (fun i => x.testBit i) n = p8 (x % 256) + zcnt (fun i => (x / 256).testBit i) k := by
  rw [h]
  exact p8_split x k
theorem px_c (x : Nat) : zcnt (fun i => x.testBit i) 64 = (p8 (x % 256) + (p8 (x / 256 % 256) + (p8 (x / 256 / 256 % 256) + (p8 (x / 256 / 256 / 256 % 256) + (p8 (x / 256 / 256 / 256 / 256 % 256) + (p8 (x / 256 / 256 / 256 / 256 / 256 % 256) + (p8 (x / 256 / 256 / 256 / 256 / 256 / 256 % 256) + (p8 (x / 256 / 256 / 256 / 256 / 256 / 256 / 256 % 256) + 0)))))))) := by
  rw [p8_next (x) 64 56 rfl, p8_next (x / 256) 56 48 rfl, p8_next (x / 256 / 256) 48 40 rfl, p8_next (x / 256 / 256 / 256) 40 32 rfl, p8_next (x / 256 / 256 / 256 / 256) 32 24 rfl, p8_next (x / 256 / 256 / 256 / 256 / 256) 24 16 rfl, p8_next (x / 256 / 256 / 256 / 256 / 256 / 256) 16 8 rfl, p8_next (x / 256 / 256 / 256 / 256 / 256 / 256 / 256) 8 0 rfl]
  rfl
theorem px_d (x : Nat) : pP 8 x = (p8 (x % 256) + 256 * (p8 (x / 256 % 256) + 256 * (p8 (x / 256 / 256 % 256) + 256 * (p8 (x / 256 / 256 / 256 % 256) + 256 * (p8 (x / 256 / 256 / 256 / 256 % 256) + 256 * (p8 (x / 256 / 256 / 256 / 256 / 256 % 256) + 256 * (p8 (x / 256 / 256 / 256 / 256 / 256 / 256 % 256) + 256 * (p8 (x / 256 / 256 / 256 / 256 / 256 / 256 / 256 % 256) + 256 * 0)))))))) := rfl
theorem pc64 (v : Int64) : p_J13_bitCount_95d88 v = nI (zcnt (fun i => v.toBitVec.getLsbD i) 64) := by
  have e6 := px_b (p8_le _) (p8_le _) (p8_le _) (p8_le _) (p8_le _) (p8_le _) (p8_le _) (p8_le _) ((px_a v).trans (px_d (xN v))) rfl rfl rfl rfl rfl rfl rfl
  have eZ := px_c (xN v)
  rw [show zcnt (fun i => v.toBitVec.getLsbD i) 64 = zcnt (fun i => (xN v).testBit i) 64 from rfl, eZ]
  have fin : p_J13_bitCount_95d88 v = (x6 (x5 (x4 (x3 (x2 (x1 v)))))).toInt32 &&& (127 : Int32) := by
    unfold p_J13_bitCount_95d88 x6 x5 x4 x3 x2 x1
    rfl
  rw [fin]
  refine nI_wN ?_
  show wN ((x6 (x5 (x4 (x3 (x2 (x1 v)))))).toInt32 &&& (127 : Int32)) = _
  have lo : wN (x6 (x5 (x4 (x3 (x2 (x1 v)))))).toInt32 = xN (x6 (x5 (x4 (x3 (x2 (x1 v)))))) % 4294967296 := by
    unfold wN xN
    rw [Int64.toBitVec_toInt32, BitVec.signExtend_eq_setWidth_of_le _ (by omega), BitVec.toNat_setWidth]
  rw [wN_and, show wN (127 : Int32) = 2 ^ 7 - 1 by decide +kernel, Nat.and_two_pow_sub_one_eq_mod, show (2 : Nat) ^ 7 = 128 from rfl, lo]
  omega
