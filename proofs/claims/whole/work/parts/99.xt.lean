/-! what holds at the law's loop head -/
def zIn (S : zSh) (I : zFI) (L : zFL) : Prop := ∃ n jn mn tl ln on, iAll S I n jn mn tl ln on ∧ (I 0 16 = 0 → zJ2 S I L (zsj I jn)) ∧ (I 0 16 = 0 → zRs S I L)
def zBg (S : zSh) (σ : Nat) : Prop := ∃ k, k ≤ 16 ∧ zwl S = 2 ^ k ∧ zN S ≤ 140 + 2 * k ∧ σ ≤ 200000 + 4 * 2 ^ k
/-- behind both calls -/
def zNe (S : zSh) (σ : Nat) (S' : zSh) (I' : zFI) (L' : zFL) : Prop := ∃ σ', zGrw S S' σ σ' ∧ zIn S' I' L' ∧ zBg S' σ'
theorem ne_same {S S' : zSh} {I I' : zFI} {L L' : zFL} {σ n jn mn tl ln on n' mn' tl' ln' on' : Nat} (h : iAll S I n jn mn tl ln on) (g : zBg S σ) (hJ : I 0 16 = 0 → zJ2 S I L (zsj I jn)) (hR : I 0 16 = 0 → zRs S I L) (e : S' = S) (h' : iAll S I' n' jn mn' tl' ln' on') (w : zSameJ I L I' L' jn) (es : I' 0 16 = I 0 16) : zNe S σ S' I' L' := by
  subst e
  exact ⟨σ, Or.inl ⟨rfl, rfl⟩, ⟨n', jn, mn', tl', ln', on', h', fun y => (hJ (es.symm.trans y)).same h w, fun y => (hR (es.symm.trans y)).same h (hJ (es.symm.trans y)) w⟩, g⟩
theorem ne_stale {S S' : zSh} {I' : zFI} {L' : zFL} {σ n' jn' mn' tl' ln' on' : Nat} (g : zBg S σ) (e : S' = S) (h' : iAll S I' n' jn' mn' tl' ln' on') (es : I' 0 16 = 1) : zNe S σ S' I' L' := by
  subst e
  exact ⟨σ, Or.inl ⟨rfl, rfl⟩, ⟨n', jn', mn', tl', ln', on', h', fun y => absurd (es.symm.trans y) (by decide), fun y => absurd (es.symm.trans y) (by decide)⟩, g⟩
theorem ne_aft {S S' : zSh} {I I' : zFI} {L L' : zFL} {σ n jn mn tl ln on on' : Nat} (h : iAll S I n jn mn tl ln on) (g : zBg S σ) (hJ : I 0 16 = 0 → zJ2 S I L (zsj I jn)) (hR : I 0 16 = 0 → zRs S I L) (e : S' = S) (h' : iAll S I' n jn mn tl ln on') (w : zAft S I L I' L' jn) : zNe S σ S' I' L' := by
  rcases w with ⟨w1, w2⟩ | ⟨w1, w2, w3, w4⟩
  · exact ne_same h g hJ hR e h' w1 w2
  · subst e
    exact ⟨σ, Or.inl ⟨rfl, rfl⟩, ⟨n, jn, mn, tl, ln, on', h', fun _ => w2, fun _ => zRs.none w3 w4⟩, g⟩
theorem bg_grow {S : zSh} {σ m : Nat} (g : zBg S σ) (hm : m ≤ 16) (lt : zwl S < 2 ^ m) : zBg (zgw S (2 ^ m)) (σ + 2 * 2 ^ m) := by
  obtain ⟨k, k1, k2, k3, k4⟩ := g
  have km : k < m := Classical.byContradiction (fun y => by
    have := Nat.pow_le_pow_right (show 0 < 2 by omega) (show m ≤ k by omega)
    omega)
  have e : 2 ^ (k + 1) ≤ 2 ^ m := Nat.pow_le_pow_right (by omega) km
  rw [Nat.pow_succ] at e
  refine ⟨m, hm, zgw_wl, ?_, by omega⟩
  show zN S + 1 + 1 ≤ _
  omega
theorem ne_po {S S' : zSh} {I I' : zFI} {L L' : zFL} {σ n jn mn tl ln on : Nat} (h : iAll S I n jn mn tl ln on) (g : zBg S σ) (hJ : I 0 16 = 0 → zJ2 S I L (zsj I jn)) (hR : I 0 16 = 0 → zRs S I L) (w : zPo S I L n jn mn tl ln on S' I' L') : zNe S σ S' I' L' := by
  obtain ⟨w1, w2, w3⟩ := w
  rcases w3 with ⟨e, w4, w5⟩ | ⟨w4, w5, w6⟩
  · subst e
    exact ne_same h g hJ hR rfl w2 w4 w5
  · have hin : zIn S' I' L' := ⟨n, jn, mn, tl, ln, on, w2, fun _ => w5, fun _ => w6⟩
    rcases w1 with e | ⟨m, m1, m2, m3⟩
    · subst e
      exact ⟨σ, Or.inl ⟨rfl, rfl⟩, hin, g⟩
    · subst m2
      exact ⟨_, Or.inr ⟨_, h.1.1, rfl, rfl⟩, hin, bg_grow g m1 m3⟩
theorem ne_cp {S S' : zSh} {I I' : zFI} {L L' : zFL} {σ n jn mn ln on : Nat} (g : zBg S σ) (hJ : I 0 16 = 0 → zJ2 S I L (zsj I jn)) (hR : I 0 16 = 0 → zRs S I L) (w : zCp S I L n jn mn ln on S' I' L') : zNe S σ S' I' L' := by
  obtain ⟨⟨a1, a2, a3⟩, ⟨tl, b⟩, c⟩ := w
  obtain ⟨k, k1, k2, k3, k4⟩ := g
  refine ⟨σ, Or.inl ⟨a1, rfl⟩, ⟨n, jn, mn, tl, ln, on, b, fun y => ?_, fun y => ?_⟩, ⟨k, k1, a3.trans k2, by rw [a1]; exact k3, k4⟩⟩
  · rcases c with c | ⟨c1, c2, c3⟩
    · exact absurd (c.symm.trans y) (by decide)
    · exact c2 (hJ (c1.symm.trans y))
  · rcases c with c | ⟨c1, c2, c3⟩
    · exact absurd (c.symm.trans y) (by decide)
    · exact c3 (hR (c1.symm.trans y))
/-- what the loop head knows of the heap -/
def zP0 (G : Gp) (s : State) (S : zSh) (σ : Nat) (H : Heap) : Prop := zTot (gB G) H ≤ σ ∧ zRec s RX12 (gB G + zpm 84) H ∧ H.size = gB G + zN S
/-- behind the class's call -/
def zP1 (G : Gp) (s : State) (S : zSh) (σ : Nat) (H' : Heap) : Prop := ∃ H : Heap, zP0 G s S σ H ∧ zSm H H'
theorem sc_in {Ln i : Nat} (hi : i + 6 ≤ Ln) (hL : Ln ≤ 3072) (j : Nat) (hj : j < 6) : vp_in (nI i + nI j) Ln := by
  rw [nI_add]
  exact znIin (by omega) (by omega)
theorem nm_12 {nm : String} : (zLaw nm).1.cls = RL := rfl
theorem zOpJ.mono {G : Gp} {m m' : Mi} {f l f' l' bc bs : Nat} {As : List Value} {S : zSh} {I : zFI} {L : zFL} {R R' : zSh → zFI → zFL → Prop} (k : ∀ (S' : zSh) (I' : zFI) (L' : zFL), R S' I' L' → R' S' I' L') (g : zOpJ G m f l m' f' l' As S I L bc bs R) : zOpJ G m f l m' f' l' As S I L bc bs R' :=
  ZC.mono (fun v S' I' L' ⟨r, e, y⟩ => ⟨r, e, ZC.mono (fun v' S'' I'' L'' ⟨e', z⟩ => ⟨e', k _ _ _ z⟩) y⟩) g
theorem sp_days {G : Gp} {S : zSh} {I : zFI} {L : zFL} {σ : Nat} {v1 : Int32} (hI : zIn S I L) (g : zBg S σ) : zOpI G mX11_days fX11_days lX11_days mX12_days fX12_days lX12_days [.int v1] S I L 0 0 (zNe S σ) := by
  obtain ⟨n, jn, mn, tl, ln, on, h, hJ, hR⟩ := hI
  exact zOpI.mono (fun S' I' L' ⟨e, h', w, es⟩ => ne_same h g hJ hR e h' w es) (op_days h)
theorem sp_view {G : Gp} {S : zSh} {I : zFI} {L : zFL} {σ : Nat} {v1 : Int32} (hI : zIn S I L) (g : zBg S σ) : zOpI G mX11_view fX11_view lX11_view mX12_view fX12_view lX12_view [.int v1] S I L 0 0 (zNe S σ) := by
  obtain ⟨n, jn, mn, tl, ln, on, h, hJ, hR⟩ := hI
  exact zOpI.mono (fun S' I' L' ⟨e, h', y⟩ => y.elim (fun es => ne_stale g e h' es) (fun y => ne_same h g hJ hR e h' y.1 y.2)) (op_view h)
theorem sp_timber {G : Gp} {S : zSh} {I : zFI} {L : zFL} {σ : Nat} {v1 v2 : Int32} (hI : zIn S I L) (g : zBg S σ) : zOpI G mX11_timber fX11_timber lX11_timber mX12_timber fX12_timber lX12_timber [.int v1, .int v2] S I L 0 0 (zNe S σ) := by
  obtain ⟨n, jn, mn, tl, ln, on, h, hJ, hR⟩ := hI
  exact zOpI.mono (fun S' I' L' ⟨e, ⟨_, h'⟩, w, es⟩ => ne_same h g hJ hR e h' w es) (op_timber h)
theorem sp_joint {G : Gp} {S : zSh} {I : zFI} {L : zFL} {σ : Nat} {v1 v2 v3 v4 : Int32} (hI : zIn S I L) (g : zBg S σ) : zOpI G mX11_joint fX11_joint lX11_joint mX12_joint fX12_joint lX12_joint [.int v1, .int v2, .int v3, .int v4] S I L 0 0 (zNe S σ) := by
  obtain ⟨n, jn, mn, tl, ln, on, h, hJ, hR⟩ := hI
  exact zOpI.mono (fun S' I' L' ⟨e, ⟨_, h'⟩, es⟩ => ne_stale g e h' es) (op_joint h)
theorem sp_feed {G : Gp} {S : zSh} {I : zFI} {L : zFL} {σ : Nat} {v1 v2 v3 v4 v5 : Int32} (hI : zIn S I L) (g : zBg S σ) : zOpI G mX11_feed fX11_feed lX11_feed mX12_feed fX12_feed lX12_feed [.int v1, .int v2, .int v3, .int v4, .int v5] S I L 0 0 (zNe S σ) := by
  obtain ⟨n, jn, mn, tl, ln, on, h, hJ, hR⟩ := hI
  exact zOpI.mono (fun S' I' L' ⟨e, ⟨_, h'⟩, w, es⟩ => ne_same h g hJ hR e h' w es) (op_feed h)
theorem sp_end {G : Gp} {S : zSh} {I : zFI} {L : zFL} {σ : Nat} {v1 : Int32} (hI : zIn S I L) (g : zBg S σ) : zOpI G mX11_end fX11_end lX11_end mX12_end fX12_end lX12_end [.int v1] S I L 0 0 (zNe S σ) := by
  obtain ⟨n, jn, mn, tl, ln, on, h, hJ, hR⟩ := hI
  exact zOpI.mono (fun S' I' L' ⟨e, ⟨_, h'⟩, w, es⟩ => ne_same h g hJ hR e h' w es) (op_end h)
theorem sp_mark {G : Gp} {S : zSh} {I : zFI} {L : zFL} {σ : Nat} {v1 : Int32} (hI : zIn S I L) (g : zBg S σ) : zOpI G mX11_mark fX11_mark lX11_mark mX12_mark fX12_mark lX12_mark [.int v1] S I L 0 0 (zNe S σ) := by
  obtain ⟨n, jn, mn, tl, ln, on, h, hJ, hR⟩ := hI
  exact zOpI.mono (fun S' I' L' ⟨e, ⟨_, _, h'⟩, y⟩ => y.elim (fun es => ne_stale g e h' es) (fun y => ne_same h g hJ hR e h' y.1 y.2)) (op_mark h)
theorem sp_custom {G : Gp} {S : zSh} {I : zFI} {L : zFL} {σ : Nat} {v1 : Int32} (hI : zIn S I L) (g : zBg S σ) : zOpI G mX11_custom fX11_custom lX11_custom mX12_custom fX12_custom lX12_custom [.int v1] S I L 0 0 (zNe S σ) := by
  obtain ⟨n, jn, mn, tl, ln, on, h, hJ, hR⟩ := hI
  exact zOpI.mono (fun S' I' L' w => ne_cp g hJ hR w) (op_custom h)
theorem sp_fault {G : Gp} {S : zSh} {I : zFI} {L : zFL} {σ : Nat} {v1 : Int32} (hI : zIn S I L) (g : zBg S σ) : zOpI G mX11_fault fX11_fault lX11_fault mX12_fault fX12_fault lX12_fault [.int v1] S I L 0 0 (zNe S σ) := by
  obtain ⟨n, jn, mn, tl, ln, on, h, hJ, hR⟩ := hI
  exact zOpI.mono (fun S' I' L' ⟨e, h', w, es⟩ => ne_same h g hJ hR e h' w es) (op_fault h)
theorem sp_look {G : Gp} {S : zSh} {I : zFI} {L : zFL} {σ : Nat} {v1 : Int32} (hI : zIn S I L) (g : zBg S σ) : zOpI G mX11_look fX11_look lX11_look mX12_look fX12_look lX12_look [.int v1] S I L 0 0 (zNe S σ) := by
  obtain ⟨n, jn, mn, tl, ln, on, h, hJ, hR⟩ := hI
  exact zOpI.mono (fun S' I' L' ⟨e, h', w⟩ => ne_aft h g hJ hR e h' w) (op_look h hJ)
theorem sp_customs {G : Gp} {S : zSh} {I : zFI} {L : zFL} {σ : Nat} {v1 v2 : Int32} (hI : zIn S I L) (g : zBg S σ) : zOpI G mX11_customs fX11_customs lX11_customs mX12_customs fX12_customs lX12_customs [.int v1, .int v2] S I L 0 0 (zNe S σ) := by
  obtain ⟨n, jn, mn, tl, ln, on, h, hJ, hR⟩ := hI
  exact zOpI.mono (fun S' I' L' ⟨e, h', w, es⟩ => ne_same h g hJ hR e h' w es) (op_customs h)
theorem sp_of {G : Gp} {S : zSh} {I : zFI} {L : zFL} {σ : Nat} {v1 v2 : Int32} (hI : zIn S I L) (g : zBg S σ) : zOpI G mX11_of fX11_of lX11_of mX12_of fX12_of lX12_of [.int v1, .int v2] S I L 0 0 (zNe S σ) := by
  obtain ⟨n, jn, mn, tl, ln, on, h, hJ, hR⟩ := hI
  exact zOpI.mono (fun S' I' L' ⟨e, h', w, es⟩ => ne_same h g hJ hR e h' w es) (op_of h)
theorem sp_at {G : Gp} {S : zSh} {I : zFI} {L : zFL} {σ : Nat} {v1 v2 : Int32} (hI : zIn S I L) (g : zBg S σ) : zOpI G mX11_at fX11_at lX11_at mX12_at fX12_at lX12_at [.int v1, .int v2] S I L 0 0 (zNe S σ) := by
  obtain ⟨n, jn, mn, tl, ln, on, h, hJ, hR⟩ := hI
  exact zOpI.mono (fun S' I' L' ⟨e, h', w, es⟩ => ne_same h g hJ hR e h' w es) (op_at h)
theorem sp_reads {G : Gp} {S : zSh} {I : zFI} {L : zFL} {σ : Nat} {v1 v2 : Int32} (hI : zIn S I L) (g : zBg S σ) : zOpJ G mX11_reads fX11_reads lX11_reads mX12_reads_ fX12_reads_ lX12_reads_ [.int v1, .int v2] S I L 0 0 (zNe S σ) := by
  obtain ⟨n, jn, mn, tl, ln, on, h, hJ, hR⟩ := hI
  exact zOpJ.mono (fun S' I' L' ⟨e, h', w, es⟩ => ne_same h g hJ hR e h' w es) (op_reads h)
theorem sp_fits {G : Gp} {S : zSh} {I : zFI} {L : zFL} {σ : Nat} {v1 v2 v3 : Int32} (hI : zIn S I L) (g : zBg S σ) : zOpI G mX11_fits fX11_fits lX11_fits mX12_fits fX12_fits lX12_fits [.int v1, .int v2, .int v3] S I L 0 0 (zNe S σ) := by
  obtain ⟨n, jn, mn, tl, ln, on, h, hJ, hR⟩ := hI
  exact zOpI.mono (fun S' I' L' ⟨e, h', w, es⟩ => ne_same h g hJ hR e h' w es) (op_fits h)
theorem sp_join {G : Gp} {S : zSh} {I : zFI} {L : zFL} {σ : Nat} {v1 v2 : Int32} (hI : zIn S I L) (g : zBg S σ) : zOpI G mX11_join fX11_join lX11_join mX12_join fX12_join lX12_join [.int v1, .int v2] S I L 0 0 (zNe S σ) := by
  obtain ⟨n, jn, mn, tl, ln, on, h, hJ, hR⟩ := hI
  exact zOpI.mono (fun S' I' L' ⟨e, h', w⟩ => ne_aft h g hJ hR e h' w) (op_join h hJ)
theorem sp_mate {G : Gp} {S : zSh} {I : zFI} {L : zFL} {σ : Nat} {v1 v2 : Int32} (hI : zIn S I L) (g : zBg S σ) : zOpI G mX11_mate fX11_mate lX11_mate mX12_mate fX12_mate lX12_mate [.int v1, .int v2] S I L 0 0 (zNe S σ) := by
  obtain ⟨n, jn, mn, tl, ln, on, h, hJ, hR⟩ := hI
  exact zOpI.mono (fun S' I' L' ⟨e, h', w⟩ => ne_aft h g hJ hR e h' w) (op_mate h hJ)
theorem sp_forced {G : Gp} {S : zSh} {I : zFI} {L : zFL} {σ : Nat} {v1 v2 : Int32} (hI : zIn S I L) (g : zBg S σ) : zOpI G mX11_forced fX11_forced lX11_forced mX12_forced fX12_forced lX12_forced [.int v1, .int v2] S I L 0 0 (zNe S σ) := by
  obtain ⟨n, jn, mn, tl, ln, on, h, hJ, hR⟩ := hI
  exact zOpI.mono (fun S' I' L' ⟨e, h', w⟩ => ne_aft h g hJ hR e h' w) (op_forced h hJ)
theorem sp_frameOf {G : Gp} {S : zSh} {I : zFI} {L : zFL} {σ : Nat} {v1 v2 : Int32} (hI : zIn S I L) (g : zBg S σ) : zOpI G mX11_frameOf fX11_frameOf lX11_frameOf mX12_frameOf fX12_frameOf lX12_frameOf [.int v1, .int v2] S I L 0 0 (zNe S σ) := by
  obtain ⟨n, jn, mn, tl, ln, on, h, hJ, hR⟩ := hI
  exact zOpI.mono (fun S' I' L' ⟨e, h', w⟩ => ne_aft h g hJ hR e h' w) (op_frameOf h hJ)
theorem sp_frame {G : Gp} {S : zSh} {I : zFI} {L : zFL} {σ : Nat} {v1 v2 v3 : Int32} (hI : zIn S I L) (g : zBg S σ) : zOpI G mX11_frame fX11_frame lX11_frame mX12_frame fX12_frame lX12_frame [.int v1, .int v2, .int v3] S I L 2 131072 (zNe S σ) := by
  obtain ⟨n, jn, mn, tl, ln, on, h, hJ, hR⟩ := hI
  exact zOpI.mono (fun S' I' L' w => ne_po h g hJ hR w) (op_frame h hJ hR)
theorem sp_orders {G : Gp} {S : zSh} {I : zFI} {L : zFL} {σ : Nat} {v1 v2 : Int32} (hI : zIn S I L) (g : zBg S σ) : zOpJ G mX11_orders fX11_orders lX11_orders mX12_orders fX12_orders lX12_orders [.int v1, .int v2] S I L 2 131072 (zNe S σ) := by
  obtain ⟨n, jn, mn, tl, ln, on, h, hJ, hR⟩ := hI
  exact zOpJ.mono (fun S' I' L' w => ne_po h g hJ hR w) (op_orders h hJ hR)
theorem sp_raised {G : Gp} {S : zSh} {I : zFI} {L : zFL} {σ : Nat} {v1 v2 v3 : Int32} (hI : zIn S I L) (g : zBg S σ) : zOpI G mX11_raised fX11_raised lX11_raised mX12_raised fX12_raised lX12_raised [.int v1, .int v2, .int v3] S I L 2 131072 (zNe S σ) := by
  obtain ⟨n, jn, mn, tl, ln, on, h, hJ, hR⟩ := hI
  exact zOpI.mono (fun S' I' L' w => ne_po h g hJ hR w) (op_raised h hJ hR)
theorem sp_master {G : Gp} {S : zSh} {I : zFI} {L : zFL} {σ : Nat} {v1 v2 : Int32} (hI : zIn S I L) (g : zBg S σ) : zOpI G mX11_master fX11_master lX11_master mX12_master fX12_master lX12_master [.int v1, .int v2] S I L 0 0 (zNe S σ) := by
  obtain ⟨n, jn, mn, tl, ln, on, h, hJ, hR⟩ := hI
  exact zOpI.mono (fun S' I' L' ⟨e, h', w, es⟩ => ne_same h g hJ hR e h' w es) (op_master h)
theorem sp_ring {G : Gp} {S : zSh} {I : zFI} {L : zFL} {σ : Nat} {v1 v2 : Int32} (hI : zIn S I L) (g : zBg S σ) : zOpI G mX11_ring fX11_ring lX11_ring mX12_ring fX12_ring lX12_ring [.int v1, .int v2] S I L 0 0 (zNe S σ) := by
  obtain ⟨n, jn, mn, tl, ln, on, h, hJ, hR⟩ := hI
  exact zOpI.mono (fun S' I' L' ⟨e, h', w, es⟩ => ne_same h g hJ hR e h' w es) (op_ring h)
theorem sp_sap {G : Gp} {S : zSh} {I : zFI} {L : zFL} {σ : Nat} {v1 v2 v3 : Int32} (hI : zIn S I L) (g : zBg S σ) (h3 : v3 = 0 ∨ v3 = 1) : zOpI G mX11_sap fX11_sap lX11_sap mX12_sap fX12_sap lX12_sap [.int v1, .int v2, .int v3] S I L 0 0 (zNe S σ) := by
  obtain ⟨n, jn, mn, tl, ln, on, h, hJ, hR⟩ := hI
  exact zOpI.mono (fun S' I' L' ⟨e, h', w, es⟩ => ne_same h g hJ hR e h' w es) (op_sap h h3)
theorem sp_date {G : Gp} {S : zSh} {I : zFI} {L : zFL} {σ : Nat} {v1 v2 v3 : Int32} (hI : zIn S I L) (g : zBg S σ) : zOpI G mX11_date fX11_date lX11_date mX12_date fX12_date lX12_date [.int v1, .int v2, .int v3] S I L 0 0 (zNe S σ) := by
  obtain ⟨n, jn, mn, tl, ln, on, h, hJ, hR⟩ := hI
  exact zOpI.mono (fun S' I' L' ⟨e, h', w, es⟩ => ne_same h g hJ hR e h' w es) (op_date h)
theorem sp_built {G : Gp} {S : zSh} {I : zFI} {L : zFL} {σ : Nat} {v1 v2 v3 : Int32} (hI : zIn S I L) (g : zBg S σ) : zOpI G mX11_built fX11_built lX11_built mX12_built fX12_built lX12_built [.int v1, .int v2, .int v3] S I L 0 0 (zNe S σ) := by
  obtain ⟨n, jn, mn, tl, ln, on, h, hJ, hR⟩ := hI
  exact zOpI.mono (fun S' I' L' w => ne_po h g hJ hR w) (op_built h hJ hR)
theorem sp_lean {G : Gp} {S : zSh} {I : zFI} {L : zFL} {σ : Nat} {v1 v2 v3 : Int32} (hI : zIn S I L) (g : zBg S σ) : zOpI G mX11_lean fX11_lean lX11_lean mX12_lean fX12_lean lX12_lean [.int v1, .int v2, .int v3] S I L 0 0 (zNe S σ) := by
  obtain ⟨n, jn, mn, tl, ln, on, h, hJ, hR⟩ := hI
  exact zOpI.mono (fun S' I' L' ⟨e, ⟨_, h'⟩, w, es⟩ => ne_same h g hJ hR e h' w es) (op_lean h)
theorem sp_leans {G : Gp} {S : zSh} {I : zFI} {L : zFL} {σ : Nat} {v1 v2 : Int32} (hI : zIn S I L) (g : zBg S σ) : zOpI G mX11_leans fX11_leans lX11_leans mX12_leans fX12_leans lX12_leans [.int v1, .int v2] S I L 0 0 (zNe S σ) := by
  obtain ⟨n, jn, mn, tl, ln, on, h, hJ, hR⟩ := hI
  exact zOpI.mono (fun S' I' L' ⟨e, h', w, es⟩ => ne_same h g hJ hR e h' w es) (op_leans h)
theorem sp_falls {G : Gp} {S : zSh} {I : zFI} {L : zFL} {σ : Nat} {v1 v2 : Int32} (hI : zIn S I L) (g : zBg S σ) : zOpI G mX11_falls fX11_falls lX11_falls mX12_falls fX12_falls lX12_falls [.int v1, .int v2] S I L 0 0 (zNe S σ) := by
  obtain ⟨n, jn, mn, tl, ln, on, h, hJ, hR⟩ := hI
  exact zOpI.mono (fun S' I' L' ⟨e, h', w, es⟩ => ne_same h g hJ hR e h' w es) (op_falls h)
theorem sp_write {G : Gp} {S : zSh} {I : zFI} {L : zFL} {σ : Nat} {v1 : Int32} (hI : zIn S I L) (g : zBg S σ) : zOpI G mX11_write fX11_write lX11_write mX12_write fX12_write lX12_write [.int v1] S I L 0 0 (zNe S σ) := by
  obtain ⟨n, jn, mn, tl, ln, on, h, hJ, hR⟩ := hI
  exact zOpI.mono (fun S' I' L' ⟨e, ⟨_, h'⟩, w⟩ => ne_aft h g hJ hR e h' w) (op_write h hJ)
theorem sp_out {G : Gp} {S : zSh} {I : zFI} {L : zFL} {σ : Nat} {v1 : Int32} (hI : zIn S I L) (g : zBg S σ) : zOpI G mX11_out fX11_out lX11_out mX12_out fX12_out lX12_out [.int v1] S I L 0 0 (zNe S σ) := by
  obtain ⟨n, jn, mn, tl, ln, on, h, hJ, hR⟩ := hI
  exact zOpI.mono (fun S' I' L' ⟨e, h', w, es⟩ => ne_same h g hJ hR e h' w es) (op_out h)
