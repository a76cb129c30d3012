/-! the words of the tables that every method may lean on -/
def ZTbl : List Cond := lw_tbl.filter goodWord
theorem zt_in {w : Cond} (i : Nat) (h : lw_tbl[i]? = some w) (hg : goodWord w = true) : w ∈ ZTbl := List.mem_filter.mpr ⟨List.mem_of_getElem? h, hg⟩
theorem zt_good {y : MethodName} {b : ByteArray} {n : Nat} {r : Option FieldType} (h : Cond.code y b n r ∈ ZTbl) : GoodIn ZTbl (Cond.code y b n r :: ZTbl) := fun w hw => by
  have hz : ∀ w ∈ ZTbl, w ∈ ZTbl ∧ ((w.onTables && w.keeps) = true ∨ ∃ ty, w = .arrayClass ty) := fun w hw => ⟨hw, good_of_word (List.mem_filter.mp hw).2⟩
  rcases List.mem_cons.mp hw with rfl | hw
  · exact hz _ h
  · exact hz _ hw
/-! cells are called by numbers of their own: cell a lies at the address B + zpm a; zpi goes back -/
def zpm (a : Nat) : Nat := if a < 64 then a else if a < 139 then a + 1 else if a = 139 then 64 else a
def zpi (i : Nat) : Nat := if i < 64 then i else if i = 64 then 139 else if i < 140 then i - 1 else i
theorem zpi_pm (a : Nat) : zpi (zpm a) = a := by
  unfold zpi zpm
  repeat' split
  all_goals omega
theorem zpm_pi (i : Nat) : zpm (zpi i) = i := by
  unfold zpi zpm
  repeat' split
  all_goals omega
theorem zpm_inj {a b : Nat} (h : zpm a = zpm b) : a = b := by rw [← zpi_pm a, h, zpi_pm]
theorem zpm_lt {a : Nat} (h : a < 140) : zpm a < 140 := by
  unfold zpm
  split
  · omega
  · split
    · omega
    · split <;> omega
theorem zpm_ge {a : Nat} (h : 140 ≤ a) : zpm a = a := by
  unfold zpm
  rw [if_neg (by omega), if_neg (by omega), if_neg (by omega)]
theorem zpi_ge {a : Nat} (h : 140 ≤ a) : zpi a = a := by
  unfold zpi
  rw [if_neg (by omega), if_neg (by omega), if_neg (by omega)]
/-! the state: shape (how many cells, the kind of each, references), ints, longs -/
abbrev zFI : Type := Nat → Nat → Int32
abbrev zFL : Type := Nat → Nat → Int64
abbrev zSh : Type := Nat × (Nat → Nat × Nat) × (Nat → Nat → Option Nat)
abbrev zN (S : zSh) : Nat := S.1
abbrev zK (S : zSh) : Nat → Nat × Nat := S.2.1
abbrev zR (S : zSh) : Nat → Nat → Option Nat := S.2.2
def u2 {α : Type} (f : Nat → Nat → α) (a k : Nat) (x : α) : Nat → Nat → α := fun b j => if b = a ∧ j = k then x else f b j
def zAt : Nat → FieldType
  | 1 => .int
  | 2 => .long
  | 3 => .byte
  | 4 => .boolean
  | 5 => .object "FrameReader$Custom"
  | 6 => .object "FrameReader$Join"
  | _ => .object "FrameReader$Frames"
def ztys (cA : Nat → ClassId) : List (ClassId × FieldType) := [(cA 1, zAt 1), (cA 2, zAt 2), (cA 3, zAt 3), (cA 4, zAt 4), (cA 5, zAt 5), (cA 6, zAt 6), (cA 7, zAt 7)]
def zTy : Nat → Nat → FieldType
  | 0 => tyX0
  | 1 => tyX1
  | 2 => tyX2
  | 3 => tyX3
  | 4 => tyX4
  | 5 => tyX5
  | 6 => tyX6
  | 7 => tyX7
  | 8 => tyX8
  | 9 => tyX9
  | 10 => tyX10
  | 11 => tyX11
  | _ => tyX12
def zCd : FieldType → Nat
  | .long => 1
  | .object _ => 2
  | .array _ => 2
  | _ => 0
def zNf (ci : Nat) : Nat := match vwCl[ci]? with
  | some q => q.2.2
  | none => 0
def zrf (B : Nat) (o : Option Nat) : Value := va_rf (o.map (fun a => B + zpm a))
def zfv (B : Nat) (f : Nat → Int32) (g : Nat → Int64) (r : Nat → Option Nat) (ci k : Nat) : Value := match zCd (zTy ci k) with
  | 0 => .int (f k)
  | 1 => .long (g k)
  | _ => zrf B (r k)
def zce (cA : Nat → ClassId) (B : Nat) (kd : Nat × Nat) (f : Nat → Int32) (g : Nat → Int64) (r : Nat → Option Nat) : va_E := match kd.1 with
  | 0 => .inr (kd.2, (List.range (zNf kd.2)).map (fun k => zfv B f g r kd.2 k))
  | 1 => .inl (cA 1, (kd.2, .inl f))
  | 2 => .inl (cA 2, (kd.2, .inr (.inl g)))
  | 3 => .inl (cA 3, (kd.2, .inl f))
  | 4 => .inl (cA 4, (kd.2, .inl f))
  | 5 => .inl (cA 5, (kd.2, .inr (.inr (.inr (.inr (fun j => (r j).map (fun a => B + zpm a)))))))
  | 6 => .inl (cA 6, (kd.2, .inr (.inr (.inr (.inr (fun j => (r j).map (fun a => B + zpm a)))))))
  | _ => .inl (cA 7, (kd.2, .inr (.inr (.inr (.inr (fun j => (r j).map (fun a => B + zpm a)))))))
def zwld (cA : Nat → ClassId) (B : Nat) (S : zSh) (I : zFI) (L : zFL) : va_W := (List.range (zN S)).map (fun i => (B + i, zce cA B (zK S (zpi i)) (I (zpi i)) (L (zpi i)) (zR S (zpi i))))
theorem zw_at {cA : Nat → ClassId} {B : Nat} {S : zSh} {I : zFI} {L : zFL} {a : Nat} (h : zpm a < zN S) : (zwld cA B S I L)[zpm a]? = some (B + zpm a, zce cA B (zK S a) (I a) (L a) (zR S a)) := by
  simp [zwld, h, zpi_pm]
theorem zw_inv {cA : Nat → ClassId} {B : Nat} {S : zSh} {I : zFI} {L : zFL} {i : Nat} {q : Nat × va_E} (h : (zwld cA B S I L)[i]? = some q) : i < zN S ∧ q = (B + i, zce cA B (zK S (zpi i)) (I (zpi i)) (L (zpi i)) (zR S (zpi i))) := by
  have hi : i < zN S := by
    have := (List.getElem?_eq_some_iff.mp h).1
    simpa [zwld] using this
  have e := zw_at (cA := cA) (B := B) (I := I) (L := L) (a := zpi i) (show zpm (zpi i) < zN S by rw [zpm_pi]; exact hi)
  rw [zpm_pi] at e
  rw [e] at h
  exact ⟨hi, (Option.some.inj h).symm⟩
theorem zw_D (cA : Nat → ClassId) (B : Nat) (S : zSh) (I : zFI) (L : zFL) : va_D (fun q : Nat => B ≤ q) (zwld cA B S I L) := by
  refine ⟨fun i j p q hi hj hpq => ?_, fun k q hk => ?_⟩
  · have h1 := (zw_inv hi).2
    have h2 := (zw_inv hj).2
    subst h1
    subst h2
    exact Nat.add_left_cancel hpq
  · have h1 := (zw_inv hk).2
    subst h1
    exact Nat.le_add_right _ _
theorem zw_i {cA : Nat → ClassId} {B : Nat} {S : zSh} {I : zFI} {L : zFL} {i : Nat} (h : i < zN S) : (zwld cA B S I L)[i]? = some (B + i, zce cA B (zK S (zpi i)) (I (zpi i)) (L (zpi i)) (zR S (zpi i))) := by
  simp [zwld, h]
theorem zw_set {cA : Nat → ClassId} {B : Nat} {S S' : zSh} {I I' : zFI} {L L' : zFL} {a : Nat} {e : va_E} (hn : zN S' = zN S) (he : e = zce cA B (zK S' a) (I' a) (L' a) (zR S' a))
    (ho : ∀ b, b ≠ a → zK S b = zK S' b ∧ I b = I' b ∧ L b = L' b ∧ zR S b = zR S' b) : (zwld cA B S I L).set (zpm a) (B + zpm a, e) = zwld cA B S' I' L' := by
  apply List.ext_getElem?
  intro i
  rw [List.getElem?_set]
  by_cases hi : i < zN S
  · rw [zw_i (show i < zN S' by omega)]
    by_cases hia : zpm a = i
    · subst hia
      rw [if_pos rfl, if_pos (by simpa [zwld] using hi), he, zpi_pm]
    · rw [if_neg hia, zw_i hi]
      obtain ⟨h1, h2, h3, h4⟩ := ho (zpi i) (fun q => hia (by rw [← q, zpm_pi]))
      rw [h1, h2, h3, h4]
  · have hl : (zwld cA B S I L).length ≤ i := by simpa [zwld] using hi
    have hl' : (zwld cA B S' I' L').length ≤ i := by simpa [zwld, hn] using hi
    rw [List.getElem?_eq_none hl', List.getElem?_eq_none hl]
    by_cases hia : zpm a = i
    · subst hia
      rw [if_pos rfl, if_neg (by omega)]
    · rw [if_neg hia]
def ZWorld (D : va_G) (cA : Nat → ClassId) (B : Nat) (S : zSh) (I : zFI) (L : zFL) (U : State) (H : Heap) : Prop :=
  H.size = B + zN S ∧ va_P D vwCl (zwld cA B S I L) H ∧ va_K D vwCl (ztys cA) U ∧ ∀ a, zN S ≤ zpm a → (∀ k, I a k = 0) ∧ (∀ k, L a k = 0) ∧ ∀ k, zR S a k = none
theorem ZWorld.moved {D : va_G} {cA : Nat → ClassId} {B : Nat} {S : zSh} {I : zFI} {L : zFL} {u U : State} {H : Heap} (hvm : u.vm.Alike U.vm) (h : ZWorld D cA B S I L u H) : ZWorld D cA B S I L U H := ⟨h.1, h.2.1, h.2.2.1.moved hvm, h.2.2.2⟩
/-! what is known beside the cells: links between nest mates, the two text constants, two statics -/
def zNestL : List (String × Nat × MethodName × String) := [("FrameReader", 11, ⟨"FrameReader$Tape", "<init>", "()V"⟩, "FrameReader"),
  ("FrameReader", 18, ⟨"FrameReader$CustomText", "<init>", "()V"⟩, "FrameReader"),
  ("FrameReader", 32, ⟨"FrameReader$Timbers", "<init>", "()V"⟩, "FrameReader"),
  ("FrameReader", 60, ⟨"FrameReader$Raising", "<init>", "()V"⟩, "FrameReader"),
  ("FrameReader", 74, ⟨"FrameReader$Built", "<init>", "()V"⟩, "FrameReader"),
  ("FrameReader", 81, ⟨"FrameReader$Leans", "<init>", "()V"⟩, "FrameReader"),
  ("FrameReader$CustomText", 110, ⟨"FrameReader", "pick", "([II)I"⟩, "FrameReader"),
  ("FrameReader$Marks", 54, ⟨"FrameReader", "pick", "([II)I"⟩, "FrameReader"),
  ("FrameReader$Timbers", 51, ⟨"FrameReader", "pick", "([II)I"⟩, "FrameReader"),
  ("FrameReader$Join", 83, ⟨"FrameReader", "pick", "([II)I"⟩, "FrameReader"),
  ("FrameReader$Frames", 76, ⟨"FrameReader", "pick", "([II)I"⟩, "FrameReader"),
  ("FrameReader$Rings", 37, ⟨"FrameReader", "pick", "([II)I"⟩, "FrameReader"),
  ("FrameReader$Leans", 44, ⟨"FrameReader", "pick", "([II)I"⟩, "FrameReader")]
def zNest : List Cond := zNestL.map (fun q => .methodLinkNest q.1 q.2.1 q.2.2.1 q.2.2.2)
def zTx0 : String := "four  add   less  both  turn  slack into  ahead hold  level marginsap   to    stock post  beam  rafterbrace"
def zTx1 : String := "     I    II   III  IIII V    VI   VII  VIII VIIIIIV   IX   "
def zLen : List Nat := [107, 60]
def zTxC : List (List Int32) := [[102, 111, 117, 114, 32, 32, 97, 100, 100, 32, 32, 32, 108, 101, 115, 115, 32, 32, 98, 111, 116, 104, 32, 32, 116, 117, 114, 110, 32, 32, 115, 108, 97, 99, 107, 32, 105, 110, 116, 111, 32, 32, 97, 104, 101, 97, 100, 32, 104, 111, 108, 100, 32, 32, 108, 101, 118, 101, 108, 32, 109, 97, 114, 103, 105, 110, 115, 97, 112, 32, 32, 32, 116, 111, 32, 32, 32, 32, 115, 116, 111, 99, 107, 32, 112, 111, 115, 116, 32, 32, 98, 101, 97, 109, 32, 32, 114, 97, 102, 116, 101, 114, 98, 114, 97, 99, 101], [32, 32, 32, 32, 32, 73, 32, 32, 32, 32, 73, 73, 32, 32, 32, 73, 73, 73, 32, 32, 73, 73, 73, 73, 32, 86, 32, 32, 32, 32, 86, 73, 32, 32, 32, 86, 73, 73, 32, 32, 86, 73, 73, 73, 32, 86, 73, 73, 73, 73, 73, 86, 32, 32, 32, 73, 88, 32, 32, 32]]
def ZExt (B : Nat) (aK aV : Nat → Nat) (U : State) (H : Heap) : Prop :=
  (∀ w ∈ zNest, va_Nw w U) ∧ vk_R "FrameReader$CustomText" 163 zTx0 (aK 0) U ∧ vk_R "FrameReader$Marks" 92 zTx1 (aK 1) U ∧ vk_S 2 zLen zTxC aK aV (fun q : Nat => B ≤ q) U H ∧
  va_Z "java/lang/String" "COMPACT_STRINGS" "Z" (.int 1) (fun q : Nat => B ≤ q) U H ∧ va_Zq "jdk/internal/util/Preconditions" "SIOOBE_FORMATTER" "Ljava/util/function/BiFunction;" (fun q : Nat => B ≤ q) U H ∧
  va_AO "FrameReader$Custom" U ∧ va_AO "FrameReader$Join" U ∧ va_AO "FrameReader$Frames" U
theorem ZExt.warm {B : Nat} {aK aV : Nat → Nat} {s U : State} {H : Heap} (hW : s.WarmedH U.vm) (h : ZExt B aK aV s H) : ZExt B aK aV U H := by
  obtain ⟨h1, h2, h3, h4, h5, h6, h7, h8, h9⟩ := h
  refine ⟨fun w hw => ?_, h2.warm hW, h3.warm hW, h4.moved hW.alike, h5.moved hW.alike, h6.moved hW.alike, h7.moved hW.alike, h8.moved hW.alike, h9.moved hW.alike⟩
  have hq := h1 w hw
  obtain ⟨q, -, rfl⟩ := List.mem_map.mp hw
  exact va_Nw.warmM hW hq
theorem ZExt.same {B : Nat} {aK aV : Nat → Nat} {s U : State} {H : Heap} (hv : U.vm = s.vm) (h : ZExt B aK aV s H) : ZExt B aK aV U H := by
  obtain ⟨h1, h2, h3, h4, h5, h6, h7, h8, h9⟩ := h
  have ha : s.vm.Alike U.vm := by rw [hv]; exact Vm.Alike.refl _
  refine ⟨fun w hw => ?_, h2.same hv, h3.same hv, h4.moved ha, h5.moved ha, h6.moved ha, h7.moved ha, h8.moved ha, h9.moved ha⟩
  have hq := h1 w hw
  obtain ⟨q, -, rfl⟩ := List.mem_map.mp hw
  exact hq.same rfl hv.symm
theorem ZExt.kept {B : Nat} {aK aV : Nat → Nat} {s : State} {H H1 : Heap} (hq : ∀ a : Nat, a < H.size → ¬ B ≤ a → H1[a]? = H[a]?) (h : ZExt B aK aV s H) : ZExt B aK aV s H1 := by
  obtain ⟨h1, h2, h3, h4, h5, h6, h7⟩ := h
  exact ⟨h1, h2, h3, h4.kept hq, h5.kept hq, h6.kept hq, h7⟩
/-! locals: by their places; null where nothing is known -/
def lvs (ls : Array Slot) (nL : Nat) (vs : List Value) : Prop := ls.size = nL ∧ lv_wf ls ∧ ∀ (i : Nat) (v : Value), vs[i]? = some v → v ≠ .null → ls[i]? = some (.val v)
def zPr (vs : List Value) (i : Nat) : Option (Nat × Value) := match vs[i]? with
  | some .null => none
  | some v => some (i, v)
  | none => none
def zToL (vs : List Value) : List (Nat × Value) := (List.range vs.length).filterMap (zPr vs)
theorem zPr_eq {vs : List Value} {i : Nat} {q : Nat × Value} : zPr vs i = some q ↔ vs[i]? = some q.2 ∧ q.2 ≠ .null ∧ q.1 = i := by
  obtain ⟨j, v⟩ := q
  unfold zPr
  cases h : vs[i]? with
  | none => simp
  | some w => cases w <;> simp <;> (try constructor) <;> (try rintro ⟨rfl, rfl⟩) <;> (try rintro ⟨rfl, h2, rfl⟩) <;> simp_all
theorem lvs.has {ls : Array Slot} {nL : Nat} {vs : List Value} (h : lvs ls nL vs) : lv_has ls nL (zToL vs) := by
  refine ⟨h.1, h.2.1, fun q hq => ?_⟩
  obtain ⟨i, -, hi⟩ := List.mem_filterMap.mp hq
  obtain ⟨h1, h2, h3⟩ := zPr_eq.mp hi
  rw [h3]
  exact h.2.2 i q.2 h1 h2
theorem zToL_mem {vs : List Value} {i : Nat} {v : Value} (h : vs[i]? = some v) (hv : v ≠ .null) : (i, v) ∈ zToL vs :=
  List.mem_filterMap.mpr ⟨i, List.mem_range.mpr (List.getElem?_eq_some_iff.mp h).1, zPr_eq.mpr ⟨h, hv, rfl⟩⟩
def zc2 : Option Value → Bool
  | some v => v.category == 2
  | none => false
def sv1 (vs : List Value) (i : Nat) (v : Value) : List Value := match i with
  | 0 => vs.set 0 v
  | j + 1 => if zc2 vs[j]? = true then (vs.set j .null).set (j + 1) v else vs.set (j + 1) v
def sv2 (vs : List Value) (i : Nat) (v : Value) : List Value := (sv1 vs i v).set (i + 1) .null
theorem sv1_at {vs : List Value} {i j : Nat} {v w : Value} (h : (sv1 vs i v)[j]? = some w) (hw : w ≠ .null) : (j = i ∧ w = v) ∨ (j ≠ i ∧ vs[j]? = some w ∧ ¬ (j + 1 = i ∧ w.category = 2)) := by
  cases i with
  | zero =>
    simp only [sv1, List.getElem?_set] at h
    by_cases hj : 0 = j
    · subst hj
      rw [if_pos rfl] at h
      split at h
      · exact Or.inl ⟨rfl, (Option.some.inj h).symm⟩
      · cases h
    · rw [if_neg hj] at h
      exact Or.inr ⟨fun q => hj q.symm, h, by omega⟩
  | succ i =>
    simp only [sv1] at h
    by_cases hc : zc2 vs[i]? = true
    · rw [if_pos hc, List.getElem?_set, List.getElem?_set] at h
      by_cases hj : i + 1 = j
      · subst hj
        rw [if_pos rfl] at h
        split at h
        · exact Or.inl ⟨rfl, (Option.some.inj h).symm⟩
        · cases h
      · rw [if_neg hj] at h
        by_cases hj2 : i = j
        · subst hj2
          rw [if_pos rfl] at h
          split at h
          · exact absurd (Option.some.inj h).symm hw
          · cases h
        · rw [if_neg hj2] at h
          exact Or.inr ⟨fun q => hj q.symm, h, by omega⟩
    · rw [if_neg hc, List.getElem?_set] at h
      by_cases hj : i + 1 = j
      · subst hj
        rw [if_pos rfl] at h
        split at h
        · exact Or.inl ⟨rfl, (Option.some.inj h).symm⟩
        · cases h
      · rw [if_neg hj] at h
        refine Or.inr ⟨fun q => hj q.symm, h, fun q => hc ?_⟩
        have : j = i := by omega
        subst this
        rw [h]
        simpa [zc2] using q.2
theorem lvs_1 {ls' : Array Slot} {nL i : Nat} {vs : List Value} {v : Value} (h : lv_has ls' nL ((i, v) :: (zToL vs).filter (fun q => !(q.1 == i) && !(q.1 + 1 == i && q.2.category == 2)))) : lvs ls' nL (sv1 vs i v) := by
  refine ⟨h.1, h.2.1, fun j w hj hw => ?_⟩
  rcases sv1_at hj hw with ⟨rfl, rfl⟩ | ⟨h1, h2, h3⟩
  · exact h.2.2 (j, w) List.mem_cons_self
  · refine h.2.2 (j, w) (List.mem_cons_of_mem _ (List.mem_filter.mpr ⟨zToL_mem h2 hw, ?_⟩))
    simp only [Bool.and_eq_true, Bool.not_eq_true', beq_eq_false_iff_ne, ne_eq, Bool.and_eq_false_iff]
    refine ⟨h1, ?_⟩
    by_cases hq : j + 1 = i
    · exact Or.inr fun q => h3 ⟨hq, q⟩
    · exact Or.inl hq
theorem lvs_2 {ls' : Array Slot} {nL i : Nat} {vs : List Value} {v : Value} (h : lv_has ls' nL ((i, v) :: (zToL vs).filter (fun q => !(q.1 == i) && (!(q.1 == i + 1) && !(q.1 + 1 == i && q.2.category == 2))))) : lvs ls' nL (sv2 vs i v) := by
  refine ⟨h.1, h.2.1, fun j w hj hw => ?_⟩
  unfold sv2 at hj
  rw [List.getElem?_set] at hj
  by_cases hj1 : i + 1 = j
  · rw [if_pos hj1] at hj
    split at hj
    · exact absurd (Option.some.inj hj).symm hw
    · cases hj
  · rw [if_neg hj1] at hj
    rcases sv1_at hj hw with ⟨rfl, rfl⟩ | ⟨h1, h2, h3⟩
    · exact h.2.2 (j, w) List.mem_cons_self
    · refine h.2.2 (j, w) (List.mem_cons_of_mem _ (List.mem_filter.mpr ⟨zToL_mem h2 hw, ?_⟩))
      simp only [Bool.and_eq_true, Bool.not_eq_true', beq_eq_false_iff_ne, ne_eq, Bool.and_eq_false_iff]
      refine ⟨h1, fun q => hj1 q.symm, ?_⟩
      by_cases hq : j + 1 = i
      · exact Or.inr fun q => h3 ⟨hq, q⟩
      · exact Or.inl hq
def zMask : List Bool → List Value → List Value
  | b :: bs, v :: vs => (bif b then v else .null) :: zMask bs vs
  | _, _ => []
theorem zMask_at {vs : List Value} : ∀ {bs : List Bool} {i : Nat} {v : Value}, (zMask bs vs)[i]? = some v → v ≠ .null → vs[i]? = some v := by
  induction vs with
  | nil => intro bs i v h; cases bs <;> simp [zMask] at h
  | cons w vs ih =>
    intro bs i v h hv
    cases bs with
    | nil => simp [zMask] at h
    | cons b bs =>
      cases i with
      | zero =>
        simp only [zMask, List.getElem?_cons_zero] at h ⊢
        cases b
        · exact absurd (Option.some.inj h).symm hv
        · exact h
      | succ i =>
        simp only [zMask, List.getElem?_cons_succ] at h ⊢
        exact ih h hv
/-! the judgements -/
abbrev Gp : Type := va_G × (Nat → ClassId) × Nat × (Nat → Nat) × (Nat → Nat)
abbrev gD (G : Gp) : va_G := G.1
abbrev gA (G : Gp) : Nat → ClassId := G.2.1
abbrev gB (G : Gp) : Nat := G.2.2.1
abbrev gKs (G : Gp) : Nat → Nat := G.2.2.2.1
abbrev gVs (G : Gp) : Nat → Nat := G.2.2.2.2
abbrev zo (G : Gp) (a : Nat) : Value := .ref (gB G + zpm a)
theorem zo_pi {G : Gp} (i : Nat) : zo G (zpi i) = .ref (gB G + i) := by
  show Value.ref (gB G + zpm (zpi i)) = _
  rw [zpm_pi]
/-- a method: its name, bytes, how many locals, what it returns -/
abbrev Mi : Type := MethodName × ByteArray × Nat × Option FieldType
abbrev zPost : Type := Option Value → zSh → zFI → zFL → Prop
def zIsRet (mi : Mi) (pc : Nat) (v : Option Value) : Prop :=
  (∃ (x : Int32) (ty : FieldType), v = some (.int x) ∧ decode mi.2.1 pc = .ok (.ireturn, 1) ∧ mi.2.2.2 = some ty ∧ narrow ty (.int x) = .int x) ∨
  (∃ x : Int64, v = some (.long x) ∧ decode mi.2.1 pc = .ok (.lreturn, 1) ∧ mi.2.2.2 = some .long) ∨
  (v = none ∧ decode mi.2.1 pc = .ok (.return_, 1) ∧ mi.2.2.2 = none) ∨
  (∃ (w : Value) (rt : FieldType), v = some w ∧ decode mi.2.1 pc = .ok (.areturn, 1) ∧ mi.2.2.2 = some rt ∧ ((∃ n, rt = .object n) ∨ ∃ t, rt = .array t) ∧ (w = .null ∨ ∃ a, w = .ref a))
def ZCx (G : Gp) (mi : Mi) (fr lo : Nat) (p : Program) (R : Room) (s : State) (m : MethodId) (args : Array Value) (meth : Method) (c : Code) : Prop :=
  p.tables.exec = Jvm.exec ∧ c.code = mi.2.1 ∧ c.maxLocals = mi.2.2.1 ∧ s.vm.findClass mi.1.cls = some m.cls ∧ (∀ w ∈ ZTbl, w.before args s = true) ∧ meth.name = mi.1.name ∧ ZExt (gB G) (gKs G) (gVs G) s s.heap ∧ fr ≤ R.frames ∧ lo ≤ R.locals
def ZKr (G : Gp) (mi : Mi) (p : Program) (l : Launch) (e : Env) (R : Room) (s : State) (m : MethodId) (args : Array Value) (below : List Frame) (meth : Method) (c : Code) (Q : zPost) (Z : State → Prop) : Prop :=
  ∀ (H : Heap) (locs : List Loc) (cells slots pc : Nat) (S : zSh) (I : zFI) (L : zFL) (v : Option Value) (ls : Array Slot), zIsRet mi pc v → Q v S I L → ZWorld (gD G) (gA G) (gB G) S I L s H → va_S (fun q : Nat => gB G ≤ q) s.heap H locs → cells ≤ R.cells → slots ≤ R.slots →
    W p l e R s m args below meth c H locs cells slots Z (F0 m pc ls v.toList)
/-- from here on the method comes to an end, with Q -/
def ZW (G : Gp) (mi : Mi) (fr lo pc : Nat) (vs st : List Value) (S : zSh) (I : zFI) (L : zFL) (bc bs : Nat) (Q : zPost) : Prop :=
  ∀ (p : Program) (l : Launch) (e : Env) (R : Room) (s : State) (m : MethodId) (args : Array Value) (below : List Frame) (meth : Method) (c : Code) (H : Heap) (locs : List Loc) (cells slots : Nat) (ls : Array Slot) (Z : State → Prop),
    ZCx G mi fr lo p R s m args meth c → ZWorld (gD G) (gA G) (gB G) S I L s H → va_S (fun q : Nat => gB G ≤ q) s.heap H locs → lvs ls mi.2.2.1 vs → cells + bc ≤ R.cells → slots + bs ≤ R.slots →
    ZKr G mi p l e R s m args below meth c Q Z → W p l e R s m args below meth c H locs cells slots Z (F0 m pc ls st)
def zPc (G : Gp) (As : List Value) (S : zSh) (I : zFI) (L : zFL) : Array Value → State → Prop := va_Pc As (fun U => ZWorld (gD G) (gA G) (gB G) S I L U U.heap ∧ ZExt (gB G) (gKs G) (gVs G) U U.heap)
def zQc (G : Gp) (Q : zPost) : Array Value → State → Outcome → State → Prop := fun _ st oc t =>
  (∃ (v : Option Value) (S : zSh) (I : zFI) (L : zFL), oc = .returned v ∧ Q v S I L ∧ ZWorld (gD G) (gA G) (gB G) S I L t t.heap) ∧ va_F (fun q : Nat => gB G ≤ q) st t
/-- the contract of a method, at these arguments and this state: it makes at most bc cells of bs slots, and ends with Q -/
def ZC (G : Gp) (mi : Mi) (fr lo : Nat) (As : List Value) (S : zSh) (I : zFI) (L : zFL) (bc bs : Nat) (Q : zPost) : Prop :=
  ∀ l : Launch, Met l mi.1 (Cond.code mi.1 mi.2.1 mi.2.2.1 mi.2.2.2 :: ZTbl) ({ frames := fr, cells := bc, slots := bs, locals := lo }) (zPc G As S I L) (zQc G Q) bc bs (fun q : Nat => gB G ≤ q)
