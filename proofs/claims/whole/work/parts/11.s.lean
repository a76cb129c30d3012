theorem ZC.mono {G : Gp} {mi : Mi} {fr lo : Nat} {As : List Value} {S : zSh} {I : zFI} {L : zFL} {bc bs : Nat} {Q Q' : zPost} (hq : ∀ v S I L, Q v S I L → Q' v S I L) (h : ZC G mi fr lo As S I L bc bs Q) : ZC G mi fr lo As S I L bc bs Q' := by
  intro l p e ha hc hk s m args below hf happ hP hK
  obtain ⟨k, o, h1, h2, h3, ⟨⟨⟨v, S', I', L', e1, q1, w1⟩, hF⟩, r⟩⟩ := h l p e ha hc hk s m args below hf happ hP hK
  exact ⟨k, o, h1, h2, h3, ⟨⟨⟨v, S', I', L', e1, hq _ _ _ _ q1, w1⟩, hF⟩, r⟩⟩
/-! the two objects' shape: the kind of each cell, the references that stay -/
def zKL : List (Nat × Nat) := [(0, 11), (0, 9), (1, 800), (0, 2), (1, 201), (1, 201), (1, 201), (5, 2), (0, 1), (0, 1), (0, 10), (1, 16), (1, 16), (1, 16), (1, 48), (1, 48), (1, 48), (1, 48), (1, 48), (0, 6), (1, 200), (1, 200), (1, 200), (1, 200), (1, 1200), (1, 48), (6, 2), (0, 4), (2, 48), (1, 576), (1, 576), (1, 576), (1, 48), (1, 50), (1, 50), (0, 4), (2, 48), (1, 576), (1, 576), (1, 576), (1, 48), (1, 50), (1, 50), (7, 2), (0, 3), (1, 16), (1, 16), (1, 8), (1, 8), (1, 8), (2, 8), (1, 128), (0, 3), (1, 16), (1, 16), (1, 8), (1, 8), (1, 8), (2, 8), (1, 128), (0, 7), (1, 16), (1, 16), (1, 16), (1, 16), (2, 1), (3, 1), (0, 8), (1, 200), (1, 16), (1, 384), (1, 384), (1, 16), (4, 16), (0, 0), (1, 16), (1, 16), (0, 5), (1, 60), (1, 60), (1, 60), (1, 60), (1, 200), (0, 1), (0, 12), (1, 16), (1, 16), (1, 16), (1, 16), (1, 16), (1, 384), (1, 384), (1, 16), (4, 16), (1, 48), (1, 48), (1, 48), (1, 48), (1, 48), (1, 200), (1, 200), (1, 200), (1, 200), (1, 1200), (1, 800), (1, 150), (1, 96), (1, 12), (1, 48), (1, 48), (1, 2304), (1, 48), (1, 48), (1, 48), (4, 48), (4, 48), (1, 48), (1, 48), (1, 48), (1, 96), (4, 96), (1, 2), (1, 2), (1, 2), (1, 16), (1, 16), (1, 16), (1, 16), (1, 16), (1, 65536), (2, 65536), (1, 200), (4, 200), (1, 1000), (1, 60), (1, 60), (1, 60), (1, 60), (1, 400), (1, 16)]
def zK0 (a : Nat) : Nat × Nat := zKL.getD a (9, 0)
def zR0 (o k : Nat) : Option Nat := match o with
  | 0 => [some 1, some 3, some 7, some 10, some 19, some 26, some 43, some 60, some 67, some 74, some 77, some 82, none, none, none, none, none].getD k none
  | 1 => [some 2, none].getD k none
  | 3 => [some 4, some 5, some 6, none, none, none, none].getD k none
  | 10 => [none, some 11, some 12, some 13, none, some 14, some 15, some 16, some 17, some 18].getD k none
  | 19 => [none, some 20, some 21, some 22, some 23, some 24, some 25].getD k none
  | 26 => [some 27, some 35].getD k none
  | 27 => [some 28, some 29, some 30, some 31, none, none, none, none, none, some 32, some 33, some 34, none, none].getD k none
  | 35 => [some 36, some 37, some 38, some 39, none, none, none, none, none, some 40, some 41, some 42, none, none].getD k none
  | 43 => [some 44, some 52].getD k none
  | 44 => [none, some 45, some 46, some 47, some 48, none, some 49, some 50, some 51].getD k none
  | 52 => [none, some 53, some 54, some 55, some 56, none, some 57, some 58, some 59].getD k none
  | 60 => [none, some 61, some 62, some 63, some 139, some 64, none, none].getD k none
  | 67 => [some 68, some 69, some 70, some 71, some 72, some 73, none, none, none, none, none, none].getD k none
  | 74 => [none, some 75, some 76, none, none, none].getD k none
  | 77 => [none, some 78, some 79, some 80, some 81, none, none, none, none, none].getD k none
  | 84 => [none, none, none, none, some 85, some 86, some 87, some 88, some 89, some 90, some 91, some 92, some 93, none, some 94, some 95, some 96, some 97, some 98, none, some 99, some 100, some 101, some 102, some 103, some 104, none, some 105, some 106, none, none, none, none, none, none, none, none, none, some 107, none, some 108, some 109, none, none, some 110, some 111, some 112, some 113, some 114, some 115, none, none, none, none, some 116, some 117, some 118, some 119, some 120, some 121, some 122, some 123, some 124, some 125, none, some 126, none, some 127, some 128, some 129, some 130, some 131, some 132, none, none, none, none, none, some 133, none, some 134, some 135, some 136, some 137, none, none, none, none, none, some 138, none].getD k none
  | _ => none
def zCu (c : Nat) : Prop := c = 8 ∨ c = 9 ∨ c = 83
def zJn (j : Nat) : Prop := j = 27 ∨ j = 35
def zFm (f : Nat) : Prop := f = 44 ∨ f = 52
def zP3 (r0 r1 d : Nat) : Prop := zCu r0 ∧ zCu r1 ∧ zCu d ∧ r0 ≠ r1 ∧ r0 ≠ d ∧ r1 ≠ d
/-- rows that grow: the first, or made later -/
def zGr (S : zSh) (w u n : Nat) : Prop := zHas S w (2, n) ∧ zHas S u (3, n) ∧ (w = 65 ∨ 140 ≤ w) ∧ (u = 66 ∨ 140 ≤ u) ∧ w ≠ u ∧ 1 ≤ n ∧ n ≤ 65536
def zStd (S : zSh) : Prop := 140 ≤ zN S ∧ (∀ a, a < 140 → zK S a = zK0 a) ∧ (∀ o k a, zR0 o k = some a → zR S o k = some a) ∧ (∃ r0 r1 d, zR S 7 0 = some r0 ∧ zR S 7 1 = some r1 ∧ zR S 0 13 = some d ∧ zP3 r0 r1 d) ∧ ∃ w u n, zR S 60 6 = some w ∧ zR S 60 7 = some u ∧ zGr S w u n
theorem zStd.has {S : zSh} (h : zStd S) {a : Nat} {kd : Nat × Nat} (e : zK0 a = kd) (ha : Nat.blt a 140 = true) : zHas S a kd := ⟨Nat.lt_of_lt_of_le (zpm_lt (Nat.le_of_ble_eq_true ha)) h.1, (h.2.1 a (Nat.le_of_ble_eq_true ha)).trans e⟩
theorem zStd.ref {S : zSh} (h : zStd S) {o k a : Nat} (e : zR0 o k = some a) : zR S o k = some a := h.2.2.1 o k a e
theorem zStd.hasC {S : zSh} (h : zStd S) {c : Nat} (hc : zCu c) : zHas S c (0, 1) := by
  rcases hc with rfl | rfl | rfl <;> exact h.has rfl rfl
theorem zStd.hasJ {S : zSh} (h : zStd S) {j : Nat} (hj : zJn j) (d : Nat) {kd : Nat × Nat} (e1 : zK0 (27 + d) = kd) (e2 : zK0 (35 + d) = kd) (hd : Nat.blt (35 + d) 140 = true) : zHas S (j + d) kd := by
  have h0 := Nat.le_of_ble_eq_true hd
  rcases hj with rfl | rfl
  · exact h.has e1 (Nat.ble_eq_true_of_le (by omega))
  · exact h.has e2 hd
theorem zStd.hasF {S : zSh} (h : zStd S) {j : Nat} (hj : zFm j) (d : Nat) {kd : Nat × Nat} (e1 : zK0 (44 + d) = kd) (e2 : zK0 (52 + d) = kd) (hd : Nat.blt (52 + d) 140 = true) : zHas S (j + d) kd := by
  have h0 := Nat.le_of_ble_eq_true hd
  rcases hj with rfl | rfl
  · exact h.has e1 (Nat.ble_eq_true_of_le (by omega))
  · exact h.has e2 hd
theorem zStd.refJ {S : zSh} (h : zStd S) {j : Nat} (hj : zJn j) {k d : Nat} (e1 : zR0 27 k = some (27 + d)) (e2 : zR0 35 k = some (35 + d)) : zR S j k = some (j + d) := by
  rcases hj with rfl | rfl
  · exact h.ref e1
  · exact h.ref e2
theorem zStd.refF {S : zSh} (h : zStd S) {j : Nat} (hj : zFm j) {k d : Nat} (e1 : zR0 44 k = some (44 + d)) (e2 : zR0 52 k = some (52 + d)) : zR S j k = some (j + d) := by
  rcases hj with rfl | rfl
  · exact h.ref e1
  · exact h.ref e2
def zjid (x : Int32) : Nat := if x = 0 then 27 else 35
def zgid (x : Int32) : Nat := if x = 0 then 44 else 52
def zrl (S : zSh) (x : Int32) : Nat := (zR S 7 (if x = 0 then 0 else 1)).getD 0
def zdr (S : zSh) : Nat := (zR S 0 13).getD 0
def zwy (S : zSh) : Nat := (zR S 60 6).getD 0
def zwo (S : zSh) : Nat := (zR S 60 7).getD 0
def zwl (S : zSh) : Nat := (zK S (zwy S)).2
theorem zjid_or (x : Int32) : zJn (zjid x) := by unfold zjid zJn; split <;> simp
theorem zgid_or (x : Int32) : zFm (zgid x) := by unfold zgid zFm; split <;> simp
theorem zStd.rl {S : zSh} (h : zStd S) {x : Int32} (hx : x = 0 ∨ x = 1) : zR S 7 x.toNatClampNeg = some (zrl S x) ∧ zCu (zrl S x) := by
  obtain ⟨r0, r1, d, h0, h1, h2, g0, g1, g2, -⟩ := h.2.2.2.1
  rcases hx with rfl | rfl
  · have e : zrl S 0 = r0 := by unfold zrl; rw [if_pos rfl, h0]; rfl
    rw [e]; exact ⟨h0, g0⟩
  · have e : zrl S 1 = r1 := by unfold zrl; rw [if_neg (by decide), h1]; rfl
    rw [e]; exact ⟨h1, g1⟩
theorem zStd.dr {S : zSh} (h : zStd S) : zR S 0 13 = some (zdr S) ∧ zCu (zdr S) := by
  obtain ⟨r0, r1, d, h0, h1, h2, g0, g1, g2, -⟩ := h.2.2.2.1
  have e : zdr S = d := by unfold zdr; rw [h2]; rfl
  rw [e]; exact ⟨h2, g2⟩
theorem zStd.p3 {S : zSh} (h : zStd S) : zP3 (zrl S 0) (zrl S 1) (zdr S) := by
  obtain ⟨r0, r1, d, h0, h1, h2, g⟩ := h.2.2.2.1
  have e : zdr S = d := by unfold zdr; rw [h2]; rfl
  have e0 : zrl S 0 = r0 := by unfold zrl; rw [if_pos rfl, h0]; rfl
  have e1 : zrl S 1 = r1 := by unfold zrl; rw [if_neg (by decide), h1]; rfl
  rw [e, e0, e1]; exact g
theorem zStd.gr {S : zSh} (h : zStd S) : zR S 60 6 = some (zwy S) ∧ zR S 60 7 = some (zwo S) ∧ zGr S (zwy S) (zwo S) (zwl S) := by
  obtain ⟨w, u, n, h0, h1, g⟩ := h.2.2.2.2
  have e0 : zwy S = w := by unfold zwy; rw [h0]; rfl
  have e1 : zwo S = u := by unfold zwo; rw [h1]; rfl
  have e2 : zwl S = n := by unfold zwl; rw [e0, g.1.2]
  rw [e0, e1, e2]; exact ⟨h0, h1, g⟩
def bI (b : Bool) : Int32 := if b = true then 1 else 0
theorem bI_n (b : Bool) : narrow .boolean (.int (bI b)) = .int (bI b) := by cases b <;> rfl
theorem bI_f (b : Bool) : fits .boolean (.int (bI b)) = true := by cases b <;> rfl
theorem bI_0 (b : Bool) : bI b = 0 ↔ b = false := by cases b <;> decide
theorem bI_1 (b : Bool) : bI b = 1 ↔ b = true := by cases b <;> decide
theorem bI_t : bI true = 1 := rfl
theorem bI_f0 : bI false = 0 := rfl
theorem bI_d (p : Prop) [Decidable p] : bI (decide p) = 0 ↔ ¬ p := by rw [bI_0]; simp
theorem zvin {i m : Int32} {n : Nat} (hm : m.toInt = (n : Int)) (h1 : 0 ≤ i) (h2 : i < m) : vp_in i n := by
  rintro (h | h)
  · exact Int32.not_lt.mpr h1 h
  · have a := Int32.lt_iff_toInt_lt.mp h2
    have b := Int32.le_iff_toInt_le.mp h1
    have c : i.toNatClampNeg = i.toInt.toNat := rfl
    have d : (0 : Int32).toInt = 0 := rfl
    omega
theorem zofn {n : Nat} (hn : Nat.ble n 2147483647 = true) : (Int32.ofNat n).toInt = (n : Int) := by
  have := Nat.le_of_ble_eq_true hn
  exact nI_toInt (n := n) (by omega)
theorem zvp {i : Int32} {n : Nat} (hn : Nat.ble n 2147483647 = true) (h1 : ¬ i < 0) (h2 : ¬ Int32.ofNat n ≤ i) : vp_in i n := zvin (zofn hn) (Int32.not_lt.mp h1) (Int32.not_le.mp h2)
theorem zb01n {x : Int32} (h : x = 0 ∨ x = 1) : narrow .boolean (.int x) = .int x := by rcases h with rfl | rfl <;> rfl
theorem zb01f {x : Int32} (h : x = 0 ∨ x = 1) : fits .boolean (.int x) = true := by rcases h with rfl | rfl <;> rfl
theorem zvl {x : Int32} {n : Nat} (h : ¬ (x < 0 ∨ n ≤ x.toNatClampNeg)) : vp_in x n := h
theorem zin2 {x : Int32} (h : x = 0 ∨ x = 1) : vp_in x 2 := by rcases h with rfl | rfl <;> exact zvl (by decide)
theorem zjid_ref {S : zSh} (hS : zStd S) {x : Int32} (h : x = 0 ∨ x = 1) : zR S 26 x.toNatClampNeg = some (zjid x) := by
  rcases h with rfl | rfl
  · exact hS.ref (o := 26) (k := 0) rfl
  · exact hS.ref (o := 26) (k := 1) rfl
theorem zgid_ref {S : zSh} (hS : zStd S) {x : Int32} (h : x = 0 ∨ x = 1) : zR S 43 x.toNatClampNeg = some (zgid x) := by
  rcases h with rfl | rfl
  · exact hS.ref (o := 43) (k := 0) rfl
  · exact hS.ref (o := 43) (k := 1) rfl
theorem ztab_out {x : Int32} {lo hi : Int} (h : ∀ c : Int, lo ≤ c → c ≤ hi → x.toInt ≠ c) : x.toInt < lo ∨ hi < x.toInt := by
  rcases Int.lt_or_le x.toInt lo with a | a
  · exact Or.inl a
  · rcases Int.lt_or_le hi x.toInt with b | b
    · exact Or.inr b
    · exact absurd rfl (h _ a b)
theorem ztab_ne {x c : Int32} (h : ¬ x = c) : x.toInt ≠ c.toInt := fun q => h (Int32.toInt_inj.mp q)
theorem ZC.of' {G : Gp} {mi : Mi} {fr lo : Nat} {S : zSh} {I : zFI} {L : zFL} {bc bs : Nat} {Q : zPost} {As vs : List Value} (h : ZW G mi fr lo 0 vs [] S I L bc bs Q) (hpl : plainName mi.1.cls = true) (hlen : (lg_sl As).length ≤ mi.2.2.1) (he : zEnt mi.2.2.1 As = vs) : ZC G mi fr lo As S I L bc bs Q := ZC.of hpl hlen (he ▸ h)
theorem ztabv_0 : (0 : Int32).toInt = 0 := rfl
theorem ztabv_1 : (1 : Int32).toInt = 1 := rfl
theorem ztabv_2 : (2 : Int32).toInt = 2 := rfl
theorem ztabv_3 : (3 : Int32).toInt = 3 := rfl
theorem ztabv_4 : (4 : Int32).toInt = 4 := rfl
theorem ztabv_5 : (5 : Int32).toInt = 5 := rfl
theorem ztabv_6 : (6 : Int32).toInt = 6 := rfl
theorem ztabv_7 : (7 : Int32).toInt = 7 := rfl
theorem ztabv_8 : (8 : Int32).toInt = 8 := rfl
theorem ztabv_9 : (9 : Int32).toInt = 9 := rfl
theorem ztabv_10 : (10 : Int32).toInt = 10 := rfl
theorem ztabv_11 : (11 : Int32).toInt = 11 := rfl
theorem ztabv_12 : (12 : Int32).toInt = 12 := rfl
theorem ztabv_13 : (13 : Int32).toInt = 13 := rfl
theorem ztabv_14 : (14 : Int32).toInt = 14 := rfl
theorem ztabv_15 : (15 : Int32).toInt = 15 := rfl
theorem ztabv_16 : (16 : Int32).toInt = 16 := rfl
theorem ztabv_17 : (17 : Int32).toInt = 17 := rfl
theorem ztabv_18 : (18 : Int32).toInt = 18 := rfl
theorem ztabv_19 : (19 : Int32).toInt = 19 := rfl
theorem ztabv_20 : (20 : Int32).toInt = 20 := rfl
theorem ztabv_21 : (21 : Int32).toInt = 21 := rfl
theorem ztabv_22 : (22 : Int32).toInt = 22 := rfl
theorem ztabv_23 : (23 : Int32).toInt = 23 := rfl
theorem ztabv_24 : (24 : Int32).toInt = 24 := rfl
theorem ztabv_25 : (25 : Int32).toInt = 25 := rfl
theorem ztabv_26 : (26 : Int32).toInt = 26 := rfl
theorem ztabv_27 : (27 : Int32).toInt = 27 := rfl
theorem ztabv_28 : (28 : Int32).toInt = 28 := rfl
theorem ztabv_29 : (29 : Int32).toInt = 29 := rfl
theorem ztabv_30 : (30 : Int32).toInt = 30 := rfl
theorem ztabv_31 : (31 : Int32).toInt = 31 := rfl
theorem ztabv_32 : (32 : Int32).toInt = 32 := rfl
theorem ztabv_33 : (33 : Int32).toInt = 33 := rfl
