/-! shapes and contents while the two objects are made -/
def zcK (n : Nat) : Nat → Nat × Nat := fun a => if zpm a < n then zK0 a else (9, 0)
def zer : List (Nat × Nat × Nat) → Nat → Nat → Option Nat
  | [] => fun _ _ => none
  | q :: ρ => u2 (zer ρ) q.1 q.2.1 (some q.2.2)
def zFil (I : zFI) (a n : Nat) (x : Int32) : zFI := fun b j => if b = a ∧ j < n then x else I b j
def zev : List (Nat × Nat × Int32 × Nat) → zFI
  | [] => fun _ _ => 0
  | q :: ι => match q.2.2.2 with
    | 0 => u2 (zev ι) q.1 q.2.1 q.2.2.1
    | n + 1 => zFil (zev ι) q.1 (n + 1) q.2.2.1
abbrev zcs (n : Nat) (ρ : List (Nat × Nat × Nat)) : zSh := (n, zcK n, zer ρ)
theorem zcK_push {n : Nat} {kd : Nat × Nat} (h : zK0 (zpi n) = kd) : (fun a => if a = zpi n then kd else zcK n a) = zcK (n + 1) := by
  funext a
  unfold zcK
  by_cases e : a = zpi n
  · rw [if_pos e, if_pos (by rw [e, zpm_pi]; omega), e, h]
  · rw [if_neg e]
    have e' : zpm a ≠ n := fun q => e (by rw [← q, zpi_pm])
    by_cases l : zpm a < n
    · rw [if_pos l, if_pos (by omega)]
    · rw [if_neg l, if_neg (by omega)]
theorem zq_has {n a : Nat} {ρ : List (Nat × Nat × Nat)} {kd : Nat × Nat} (h : Nat.blt (zpm a) n = true) (e : zK0 a = kd) : zHas (zcs n ρ) a kd := by
  have h' : zpm a < n := Nat.le_of_ble_eq_true h
  refine ⟨h', ?_⟩
  show (if zpm a < n then zK0 a else (9, 0)) = kd
  rw [if_pos h', e]
section ZQ
variable {G : Gp} {mi : Mi} {fr lo pc : Nat} {vs st : List Value} {n : Nat} {ρ : List (Nat × Nat × Nat)} {I : zFI} {L : zFL} {bc bs : Nat} {Q : zPost}
theorem zq_newI {len : Int32} {a N n' bc' bs' : Nat} (hd : decode mi.2.1 pc = .ok (.newarray .int, 2)) (h0 : ¬ len < 0) (hN : len.toNatClampNeg = N) (ha : zpi n = a) (hk : zK0 a = (1, N)) (hn : n + 1 = n') (hb : N * componentBytes .int ≤ 536870912) (hbc : bc' + 1 ≤ bc) (hbs : bs' + N ≤ bs)
    (kk : ZW G mi fr lo (pc + 2) vs (zo G a :: st) (zcs n' ρ) I L bc' bs' Q) : ZW G mi fr lo pc vs (.int len :: st) (zcs n ρ) I L bc bs Q := by
  subst hn
  subst ha
  refine zr_newI hd zac_int h0 hN hb hbc hbs ?_
  show ZW G mi fr lo (pc + 2) vs (zo G (zpi n) :: st) (n + 1, (fun a => if a = zpi n then (1, N) else zcK n a), zer ρ) I L bc' bs' Q
  rw [zcK_push hk]
  exact kk
theorem zq_newJ {len : Int32} {a N n' bc' bs' : Nat} (hd : decode mi.2.1 pc = .ok (.newarray .long, 2)) (h0 : ¬ len < 0) (hN : len.toNatClampNeg = N) (ha : zpi n = a) (hk : zK0 a = (2, N)) (hn : n + 1 = n') (hb : N * componentBytes .long ≤ 536870912) (hbc : bc' + 1 ≤ bc) (hbs : bs' + N ≤ bs)
    (kk : ZW G mi fr lo (pc + 2) vs (zo G a :: st) (zcs n' ρ) I L bc' bs' Q) : ZW G mi fr lo pc vs (.int len :: st) (zcs n ρ) I L bc bs Q := by
  subst hn
  subst ha
  refine zr_newJ hd zac_long h0 hN hb hbc hbs ?_
  show ZW G mi fr lo (pc + 2) vs (zo G (zpi n) :: st) (n + 1, (fun a => if a = zpi n then (2, N) else zcK n a), zer ρ) I L bc' bs' Q
  rw [zcK_push hk]
  exact kk
theorem zq_newB {len : Int32} {a N n' bc' bs' : Nat} (hd : decode mi.2.1 pc = .ok (.newarray .byte, 2)) (h0 : ¬ len < 0) (hN : len.toNatClampNeg = N) (ha : zpi n = a) (hk : zK0 a = (3, N)) (hn : n + 1 = n') (hb : N * componentBytes .byte ≤ 536870912) (hbc : bc' + 1 ≤ bc) (hbs : bs' + N ≤ bs)
    (kk : ZW G mi fr lo (pc + 2) vs (zo G a :: st) (zcs n' ρ) I L bc' bs' Q) : ZW G mi fr lo pc vs (.int len :: st) (zcs n ρ) I L bc bs Q := by
  subst hn
  subst ha
  refine zr_newB hd zac_byte h0 hN hb hbc hbs ?_
  show ZW G mi fr lo (pc + 2) vs (zo G (zpi n) :: st) (n + 1, (fun a => if a = zpi n then (3, N) else zcK n a), zer ρ) I L bc' bs' Q
  rw [zcK_push hk]
  exact kk
theorem zq_newZ {len : Int32} {a N n' bc' bs' : Nat} (hd : decode mi.2.1 pc = .ok (.newarray .boolean, 2)) (h0 : ¬ len < 0) (hN : len.toNatClampNeg = N) (ha : zpi n = a) (hk : zK0 a = (4, N)) (hn : n + 1 = n') (hb : N * componentBytes .boolean ≤ 536870912) (hbc : bc' + 1 ≤ bc) (hbs : bs' + N ≤ bs)
    (kk : ZW G mi fr lo (pc + 2) vs (zo G a :: st) (zcs n' ρ) I L bc' bs' Q) : ZW G mi fr lo pc vs (.int len :: st) (zcs n ρ) I L bc bs Q := by
  subst hn
  subst ha
  refine zr_newZ hd zac_boolean h0 hN hb hbc hbs ?_
  show ZW G mi fr lo (pc + 2) vs (zo G (zpi n) :: st) (n + 1, (fun a => if a = zpi n then (4, N) else zcK n a), zer ρ) I L bc' bs' Q
  rw [zcK_push hk]
  exact kk
theorem zq_newA {len : Int32} {idx a t N n' bc' bs' : Nat} {C0 : String} (hd : decode mi.2.1 pc = .ok (.anewarray idx, 3)) (ht : t = 5 ∨ t = 6 ∨ t = 7) (hC : zAt t = .object C0) (hk0 : Cond.classLink mi.1.cls idx C0 ∈ ZTbl) (h0 : ¬ len < 0) (hN : len.toNatClampNeg = N) (ha : zpi n = a) (hk : zK0 a = (t, N)) (hn : n + 1 = n') (hb : N * 4 ≤ 536870912) (hbc : bc' + 1 ≤ bc) (hbs : bs' + N ≤ bs)
    (kk : ZW G mi fr lo (pc + 3) vs (zo G a :: st) (zcs n' ρ) I L bc' bs' Q) : ZW G mi fr lo pc vs (.int len :: st) (zcs n ρ) I L bc bs Q := by
  subst hn
  subst ha
  refine zr_newA hd ht hC hk0 h0 hN hb hbc hbs ?_
  show ZW G mi fr lo (pc + 3) vs (zo G (zpi n) :: st) (n + 1, (fun a => if a = zpi n then (t, N) else zcK n a), zer ρ) I L bc' bs' Q
  rw [zcK_push hk]
  exact kk
theorem zq_new {idx a ci n' bc' bs' : Nat} {C0 : String} {T : u_T} {N : Nat} (hd : decode mi.2.1 pc = .ok (.new idx, 3)) (hcl : ZCl ci C0 T N) (hk0 : Cond.classLink mi.1.cls idx C0 ∈ ZTbl) (hin : Cond.instantiable C0 N ∈ ZTbl) (hini : Cond.initialized C0 ∈ ZTbl) (hz : ∀ j, j < N → defaultValue (zTy ci j) = zfv 0 (fun _ => 0) (fun _ => 0) (fun _ => none) ci j) (ha : zpi n = a) (hk : zK0 a = (0, ci)) (hn : n + 1 = n') (hbc : bc' + 1 ≤ bc) (hbs : bs' + N ≤ bs)
    (kk : ZW G mi fr lo (pc + 3) vs (zo G a :: st) (zcs n' ρ) I L bc' bs' Q) : ZW G mi fr lo pc vs st (zcs n ρ) I L bc bs Q := by
  subst hn
  subst ha
  refine zr_new hd hcl hk0 hin hini hz hbc hbs ?_
  show ZW G mi fr lo (pc + 3) vs (zo G (zpi n) :: st) (n + 1, (fun a => if a = zpi n then (0, ci) else zcK n a), zer ρ) I L bc' bs' Q
  rw [zcK_push hk]
  exact kk
theorem zq_putR {idx ci k o a : Nat} {fin : Bool} {ρ' : List (Nat × Nat × Nat)} (hd : decode mi.2.1 pc = .ok (.putfield idx, 3)) (hf : ZFl mi.1.cls idx ci k fin) (hfin : fin = false ∨ (mi.1.name = "<init>" ∧ ∃ C T N, vwCl[ci]? = some (C, T, N) ∧ (T k).1 = mi.1.cls)) (hc0 : zCd (zTy ci k) = 2) (h : Nat.blt (zpm o) n = true) (e : zK0 o = (0, ci)) (hn : narrow (zTy ci k) (zo G a) = zo G a) (hfit : fits (zTy ci k) (zo G a) = true) (hρ : ρ' = (o, k, a) :: ρ)
    (kk : ZW G mi fr lo (pc + 3) vs st (zcs n ρ') I L bc bs Q) : ZW G mi fr lo pc vs (zo G a :: zo G o :: st) (zcs n ρ) I L bc bs Q := by
  subst hρ
  exact zr_putR hd hf hfin hc0 (zq_has h e) hn hfit kk
theorem zq_putI {idx ci k o : Nat} {x : Int32} {ι ι' : List (Nat × Nat × Int32 × Nat)} (hd : decode mi.2.1 pc = .ok (.putfield idx, 3)) (hf : ZFl mi.1.cls idx ci k false) (hc0 : zCd (zTy ci k) = 0) (h : Nat.blt (zpm o) n = true) (e : zK0 o = (0, ci)) (hn : narrow (zTy ci k) (.int x) = .int x) (hfit : fits (zTy ci k) (.int x) = true) (hι : ι' = (o, k, x, 0) :: ι)
    (kk : ZW G mi fr lo (pc + 3) vs st (zcs n ρ) (zev ι') L bc bs Q) : ZW G mi fr lo pc vs (.int x :: zo G o :: st) (zcs n ρ) (zev ι) L bc bs Q := by
  subst hι
  exact zr_putI hd hf hc0 (zq_has h e) hn hfit kk
theorem zq_iast {a N k : Nat} {i x : Int32} {ι ι' : List (Nat × Nat × Int32 × Nat)} (hd : decode mi.2.1 pc = .ok (.iastore, 1)) (h : Nat.blt (zpm a) n = true) (e : zK0 a = (1, N)) (hin : vp_in i N) (hi : i.toNatClampNeg = k) (hι : ι' = (a, k, x, 0) :: ι)
    (kk : ZW G mi fr lo (pc + 1) vs st (zcs n ρ) (zev ι') L bc bs Q) : ZW G mi fr lo pc vs (.int x :: .int i :: zo G a :: st) (zcs n ρ) (zev ι) L bc bs Q := by
  subst hι
  subst hi
  exact zr_iast hd (zq_has h e) hin kk
theorem zq_aast {a N t q k ci : Nat} {i : Int32} {C0 : String} {T : u_T} {M : Nat} {ρ' : List (Nat × Nat × Nat)} (hd : decode mi.2.1 pc = .ok (.aastore, 1)) (h : Nat.blt (zpm a) n = true) (e : zK0 a = (t, N)) (ht : t = 5 ∨ t = 6 ∨ t = 7) (hcl : ZCl ci C0 T M) (hC : zAt t = .object C0) (h2 : Nat.blt (zpm q) n = true) (e2 : zK0 q = (0, ci)) (hin : vp_in i N) (hi : i.toNatClampNeg = k) (hρ : ρ' = (a, k, q) :: ρ)
    (kk : ZW G mi fr lo (pc + 1) vs st (zcs n ρ') I L bc bs Q) : ZW G mi fr lo pc vs (zo G q :: .int i :: zo G a :: st) (zcs n ρ) I L bc bs Q := by
  subst hρ
  subst hi
  exact zr_aast hd (zq_has h e) ht hcl hC (zq_has h2 e2) hin kk
end ZQ
/-- Arrays.fill on any shape -/
theorem c_fill0 {G : Gp} {Q : zPost} {S : zSh} {I : zFI} {L : zFL} {a n : Nat} {x : Int32} (ha : zHas S a (1, n)) (hn : n < 2147483648) (h : Q none S (zFil I a n x) L) : ZC G mJ7_fill_53178 fJ7_fill_53178 lJ7_fill_53178 [zo G a, .int x] S I L 0 0 Q := by
  have key : ∀ (k m : Nat) (I1 : zFI), m + k = n → I1 = zFil I a m x → ZW G mJ7_fill_53178 fJ7_fill_53178 lJ7_fill_53178 5 [zo G a, .int x, .int (nI m), .int (nI n)] [] S I1 L 0 0 Q := by
    intro k
    induction k with
    | zero =>
      intro m I1 hm h1
      refine zr_iload_n dJ7_fill_53178_5 rfl rfl ?_
      refine zr_iload_n dJ7_fill_53178_6 rfl rfl ?_
      refine zr_icge (tgt := 20) dJ7_fill_53178_7 (by decide) (fun hb => ?_) (fun hb => ?_)
      · refine zr_return_ dJ7_fill_53178_20 rfl ?_
        rw [h1, show m = n by omega]
        exact h
      · exact absurd (nI_le (show n ≤ m by omega) (by omega)) hb
    | succ k ih =>
      intro m I1 hm h1
      refine zr_iload_n dJ7_fill_53178_5 rfl rfl ?_
      refine zr_iload_n dJ7_fill_53178_6 rfl rfl ?_
      refine zr_icge (tgt := 20) dJ7_fill_53178_7 (by decide) (fun hb => ?_) (fun hb => ?_)
      · exact absurd hb (nI_ge (show m < n by omega) (by omega))
      · refine zr_aload_n dJ7_fill_53178_10 rfl rfl ?_
        refine zr_iload_n dJ7_fill_53178_11 rfl rfl ?_
        refine zr_iload_n dJ7_fill_53178_12 rfl rfl ?_
        refine zr_iast dJ7_fill_53178_13 ha (znIin (by omega) hn) ?_
        refine zr_iinc (v := nI (m + 1)) dJ7_fill_53178_14 rfl (nI_add m 1) (Nat.le_of_ble_eq_true rfl) rfl ?_
        refine zr_goto (tgt := 5) dJ7_fill_53178_17 (by decide) ?_
        rw [znIc (show m < 2147483648 by omega)]
        refine ih (m + 1) _ (by omega) ?_
        funext b j
        rw [h1]
        unfold u2 zFil
        by_cases e : b = a ∧ j = m
        · rw [if_pos e, if_pos ⟨e.1, by omega⟩]
        · rw [if_neg e]
          by_cases e' : b = a ∧ j < m
          · rw [if_pos e', if_pos ⟨e'.1, by omega⟩]
          · rw [if_neg e', if_neg (fun y => by
              by_cases z : j = m
              · exact e ⟨y.1, z⟩
              · exact e' ⟨y.1, by omega⟩)]
  refine ZC.of' (vs := [zo G a, .int x, .null, .null]) ?_ rfl (Nat.le_of_ble_eq_true rfl) rfl
  refine zr_iconst (v := 0) dJ7_fill_53178_0 (by decide) ?_
  refine zr_istore_n dJ7_fill_53178_1 rfl (Nat.le_of_ble_eq_true rfl) rfl ?_
  refine zr_aload_n dJ7_fill_53178_2 rfl rfl ?_
  refine zr_alen (n := n) dJ7_fill_53178_3 ha (by decide) rfl ?_
  refine zr_istore_n dJ7_fill_53178_4 rfl (Nat.le_of_ble_eq_true rfl) rfl ?_
  refine key n 0 I (by omega) ?_
  funext b j
  unfold zFil
  rw [if_neg (fun y => absurd y.2 (by omega))]
theorem df_12 : ∀ j : Fin 91, defaultValue (zTy 12 j.1) = zfv 0 (fun _ => 0) (fun _ => 0) (fun _ => none) 12 j.1 := by decide +kernel
