theorem nI_wN {v : Int32} {n : Nat} (h : v.toBitVec.toNat = n) : v = nI n := by
  refine Int32.toBitVec_inj.mp (BitVec.eq_of_toNat_eq ?_)
  rw [h]
  show n = (BitVec.ofNat 32 n).toNat
  have := v.toBitVec.isLt
  rw [BitVec.toNat_ofNat, Nat.mod_eq_of_lt (by omega)]
def w1 (v : Int32) : Int32 := v - ((v.toUInt32 >>> ((1 : Int32).toUInt32 &&& Int32.toUInt32 31)).toInt32 &&& (1431655765 : Int32))
def w2 (v : Int32) : Int32 := (v &&& (858993459 : Int32)) + ((v.toUInt32 >>> ((2 : Int32).toUInt32 &&& Int32.toUInt32 31)).toInt32 &&& (858993459 : Int32))
def w3 (v : Int32) : Int32 := (v + (v.toUInt32 >>> ((4 : Int32).toUInt32 &&& Int32.toUInt32 31)).toInt32) &&& (252645135 : Int32)
def w4 (v : Int32) : Int32 := v + (v.toUInt32 >>> ((8 : Int32).toUInt32 &&& Int32.toUInt32 31)).toInt32
def w5 (v : Int32) : Int32 := v + (v.toUInt32 >>> ((16 : Int32).toUInt32 &&& Int32.toUInt32 31)).toInt32
def wN (v : Int32) : Nat := v.toBitVec.toNat
theorem wN_sh {v : Int32} {c : UInt32} (k d : Nat) (h : c.toNat % 32 = k) (hd : 2 ^ k = d) : wN (v.toUInt32 >>> c).toInt32 = wN v / d := by
  show (v.toUInt32 >>> c).toNat = _
  rw [UInt32.toNat_shiftRight, h, Nat.shiftRight_eq_div_pow, hd]
  rfl
theorem wN_and (a b : Int32) : wN (a &&& b) = wN a &&& wN b := by
  unfold wN
  rw [Int32.toBitVec_and, BitVec.toNat_and]
theorem wN_add {a b : Int32} (h : wN a + wN b < 4294967296) : wN (a + b) = wN a + wN b := by
  unfold wN at *
  rw [Int32.toBitVec_add, BitVec.toNat_add, Nat.mod_eq_of_lt h]
theorem wN_sub {a b : Int32} (h : wN b ≤ wN a) : wN (a - b) = wN a - wN b := by
  unfold wN at *
  have := a.toBitVec.isLt
  have := b.toBitVec.isLt
  rw [Int32.toBitVec_sub, BitVec.toNat_sub]
  omega
theorem wN_lt (v : Int32) : wN v < 4294967296 := v.toBitVec.isLt
theorem wc85 : wN (1431655765 : Int32) = pm 85 4 := by
  rw [show pm 85 4 = 1431655765 by decide]
  decide
theorem wc51 : wN (858993459 : Int32) = pm 51 4 := by
  rw [show pm 51 4 = 858993459 by decide]
  decide
theorem wc15 : wN (252645135 : Int32) = pm 15 4 := by
  rw [show pm 15 4 = 252645135 by decide]
  decide
theorem pc32 (v : Int32) : p_J6_bitCount_0f7a4 v = nI (zcnt (fun i => v.toBitVec.getLsbD i) 32) := by
  have hx := wN_lt v
  obtain ⟨i1, i2, i3⟩ := pP_all 4 (wN v) hx
  have e1 : wN (w1 v) = pt (wN v) (pm 85 4) := by
    have s : wN ((v.toUInt32 >>> ((1 : Int32).toUInt32 &&& Int32.toUInt32 31)).toInt32 &&& (1431655765 : Int32)) = wN v / 2 &&& pm 85 4 := by
      rw [wN_and, wN_sh 1 2 (by decide) (by decide), wc85]
    unfold w1
    rw [wN_sub (by rw [s]; exact i1), s]
    rfl
  have e2 : wN (w2 (w1 v)) = pu (pt (wN v) (pm 85 4)) (pm 51 4) := by
    have s1 : wN (w1 v &&& (858993459 : Int32)) = wN (w1 v) &&& pm 51 4 := by rw [wN_and, wc51]
    have s2 : wN (((w1 v).toUInt32 >>> ((2 : Int32).toUInt32 &&& Int32.toUInt32 31)).toInt32 &&& (858993459 : Int32)) = wN (w1 v) / 4 &&& pm 51 4 := by
      rw [wN_and, wN_sh 2 4 (by decide) (by decide), wc51]
    have l1 : (wN (w1 v) &&& pm 51 4) ≤ pm 51 4 := Nat.and_le_right
    have l2 : (wN (w1 v) / 4 &&& pm 51 4) ≤ pm 51 4 := Nat.and_le_right
    have l3 : pm 51 4 = 858993459 := by decide
    unfold w2
    rw [wN_add (by rw [s1, s2]; omega), s1, s2, e1]
    rfl
  have e3 : wN (w3 (w2 (w1 v))) = pP 4 (wN v) := by
    have s2 : wN ((w2 (w1 v)).toUInt32 >>> ((4 : Int32).toUInt32 &&& Int32.toUInt32 31)).toInt32 = wN (w2 (w1 v)) / 16 := wN_sh 4 16 (by decide) (by decide)
    have l3 : pm 51 4 = 858993459 := by decide
    have l1 : pu (pt (wN v) (pm 85 4)) (pm 51 4) ≤ pm 51 4 + pm 51 4 := Nat.add_le_add Nat.and_le_right Nat.and_le_right
    unfold w3
    rw [wN_and, wN_add (by rw [s2, e2]; omega), s2, e2, ← i3, wc15]
    rfl
  have p0 := p8_le (wN v % 256)
  have p1 := p8_le (wN v / 256 % 256)
  have p2 := p8_le (wN v / 256 / 256 % 256)
  have p3 := p8_le (wN v / 256 / 256 / 256 % 256)
  have eP : pP 4 (wN v) = p8 (wN v % 256) + 256 * (p8 (wN v / 256 % 256) + 256 * (p8 (wN v / 256 / 256 % 256) + 256 * (p8 (wN v / 256 / 256 / 256 % 256) + 256 * 0))) := rfl
  have eZ : zcnt (fun i => v.toBitVec.getLsbD i) 32 = p8 (wN v % 256) + (p8 (wN v / 256 % 256) + (p8 (wN v / 256 / 256 % 256) + (p8 (wN v / 256 / 256 / 256 % 256) + 0))) := by
    have a0 : zcnt (fun i => (wN v).testBit i) (8 + 24) = _ := p8_split (wN v) 24
    have a1 : zcnt (fun i => (wN v / 256).testBit i) (8 + 16) = _ := p8_split (wN v / 256) 16
    have a2 : zcnt (fun i => (wN v / 256 / 256).testBit i) (8 + 8) = _ := p8_split (wN v / 256 / 256) 8
    have a3 : zcnt (fun i => (wN v / 256 / 256 / 256).testBit i) (8 + 0) = _ := p8_split (wN v / 256 / 256 / 256) 0
    rw [show (24 : Nat) = 8 + 16 from rfl, a1, show (16 : Nat) = 8 + 8 from rfl, a2, show (8 : Nat) = 8 + 0 from rfl, a3] at a0
    exact a0
  rw [eZ]
  generalize p8 (wN v % 256) = c0 at *
  generalize p8 (wN v / 256 % 256) = c1 at *
  generalize p8 (wN v / 256 / 256 % 256) = c2 at *
  generalize p8 (wN v / 256 / 256 / 256 % 256) = c3 at *
  rw [eP] at e3
  have e4 : wN (w4 (w3 (w2 (w1 v)))) = (c0 + c1) + 256 * (c1 + c2) + 65536 * (c2 + c3) + 16777216 * c3 := by
    have s2 : wN ((w3 (w2 (w1 v))).toUInt32 >>> ((8 : Int32).toUInt32 &&& Int32.toUInt32 31)).toInt32 = wN (w3 (w2 (w1 v))) / 256 := wN_sh 8 256 (by decide) (by decide)
    have q := divB (X := wN (w3 (w2 (w1 v)))) (B := 256) c0 (c1 + 256 * c2 + 65536 * c3) (by omega) (by omega)
    unfold w4
    rw [wN_add (by rw [s2, q]; omega), s2, q]
    omega
  have e5 : wN (w5 (w4 (w3 (w2 (w1 v))))) % 64 = c0 + c1 + c2 + c3 := by
    have s2 : wN ((w4 (w3 (w2 (w1 v)))).toUInt32 >>> ((16 : Int32).toUInt32 &&& Int32.toUInt32 31)).toInt32 = wN (w4 (w3 (w2 (w1 v)))) / 65536 := wN_sh 16 65536 (by decide) (by decide)
    have q := divB (X := wN (w4 (w3 (w2 (w1 v))))) (B := 65536) ((c0 + c1) + 256 * (c1 + c2)) ((c2 + c3) + 256 * c3) (by omega) (by omega)
    unfold w5
    rw [wN_add (by rw [s2, q]; omega), s2, q]
    exact modB _ (4 * ((c1 + c2) + c3) + 1024 * (c2 + c3) + 262144 * c3) (by omega) (by omega)
  have fin : p_J6_bitCount_0f7a4 v = w5 (w4 (w3 (w2 (w1 v)))) &&& (63 : Int32) := by
    unfold p_J6_bitCount_0f7a4 w5 w4 w3 w2 w1
    rfl
  rw [fin]
  refine nI_wN ?_
  show wN (w5 (w4 (w3 (w2 (w1 v)))) &&& (63 : Int32)) = _
  rw [wN_and, show wN (63 : Int32) = 2 ^ 6 - 1 by decide, Nat.and_two_pow_sub_one_eq_mod, show (2 : Nat) ^ 6 = 64 from rfl, e5]
  omega
