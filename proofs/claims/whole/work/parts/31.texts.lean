/-! texts of both sides, and what they say -/
def cap (t : Nat) : Nat := if t = 0 then 50 else 30
def RT (μ : Mem) (tn : Nat → Nat) (tb : Nat → Nat → Nat) : Prop := ∀ t, t < 4 → tn t ≤ cap t ∧ (∀ k, k < tn t → tb t k < 256) ∧ TC μ t (tn t) (tb t) ∧ TM μ t (tn t) (tb t) ∧ μ.1 (115 + 2 * t) 1 = nI (cap t)
abbrev LN (tn : Nat → Nat) (tb : Nat → Nat → Nat) : LD := (land (tn 0) (tb 0)).2
def RC (μ : Mem) (tn : Nat → Nat) (tb : Nat → Nat → Nat) (S : Nat) : Prop := RT μ tn tb ∧ CL μ (LN tn tb) ∧ μ.1 1 5 = oI (land (tn 0) (tb 0)).1 ∧ S < 512 ∧ μ.1 1 3 = nI S ∧ μ.1 123 13 = nI S
/-- what a question may overwrite -/
def SQ (o k : Nat) : Prop := (4 ≤ o ∧ o ≤ 77) ∨ (82 ≤ o ∧ o ≤ 106) ∨ (o = 123 ∧ k ≠ 4 ∧ k ≠ 13 ∧ k ≠ 28) ∨ o = 127 ∨ (130 ≤ o ∧ o ≤ 141) ∨ 145 ≤ o
theorem SM_up {o k : Nat} (h : SM o k) : SQ o k := by unfold SM at h; unfold SQ; omega
theorem cap_le (t : Nat) : cap t ≤ 50 ∧ 30 ≤ cap t := by unfold cap; split <;> omega
theorem offT_le {t k : Nat} (ht : t < 4) (hk : k < cap t) : offT t + k < 140 := by
  unfold offT cap at *
  split at hk <;> rename_i h
  · rw [if_pos h]; omega
  · rw [if_neg h]; omega
section TEXTS
variable {E : EV} {μ ν : Mem} {tn : Nat → Nat} {tb : Nat → Nat → Nat} {S : Nat}
theorem RT.fr (h : RT μ tn tb) (hf : Fr SQ μ ν) : RT ν tn tb := by
  intro t ht
  obtain ⟨h1, h2, h3, h4, h5⟩ := h t ht
  refine ⟨h1, h2, ⟨?_, fun k hk => ?_⟩, ⟨?_, fun k hk => ?_⟩, ?_⟩
  · rw [(hf _ _ (by unfold SQ; omega)).1]; exact h3.1
  · rw [(hf _ _ (by unfold SQ; omega)).1]; exact h3.2 k hk
  · rw [(hf _ _ (by unfold SQ; omega)).1]; exact h4.1
  · rw [(hf _ _ (by unfold SQ; omega)).1]; exact h4.2 k hk
  · rw [(hf _ _ (by unfold SQ; omega)).1]; exact h5
theorem RC.fr (h : RC μ tn tb S) (hf : Fr SQ μ ν) : RC ν tn tb S := by
  obtain ⟨h1, h2, h3, h4, h5, h6⟩ := h
  have e : ∀ o k, (o = 1 ∨ o = 2) → ν.1 o k = μ.1 o k := fun o k ho => (hf o k (by unfold SQ; omega)).1
  refine ⟨h1.fr hf, h2.fr (e _ _ (by omega)) (e _ _ (by omega)) (e _ _ (by omega)) (fun k _ => e _ _ (by omega)), by rw [e _ _ (by omega), h3], h4, by rw [e _ _ (by omega), h5], ?_⟩
  rw [(hf 123 13 (by unfold SQ; omega)).1]
  exact h6
theorem RC.rl (h : RC μ tn tb S) : Sp E MX11_readsLand [.ref 123] μ (fun v m => ∃ r, v = some (.int r) ∧ (r = oI (land (tn 0) (tb 0)).1 ∧ ML m (LN tn tb) ∧ RC m tn tb S ∧ Fr SQ μ m)) := by
  obtain ⟨h1, h2, h3, h4, h5⟩ := h.1 0 (by decide)
  refine Sp.i (cM_readsLand h4 h2 h1) (fun r m hm => ?_)
  have hf : Fr SQ μ m := hm.2.2.up (fun _ _ => SM_up)
  exact ⟨hm.1, hm.2.1, h.fr hf, hf⟩
/-- the first place that is no letter -/
def wfu (g : Nat) (b : Nat → Nat) : Nat → Nat → Option Nat
  | 0, _ => none
  | d + 1, k => if lo g (b k) = none then some k else wfu g b d (k + 1)
def wf (g n : Nat) (b : Nat → Nat) : Option Nat := wfu g b n 0
theorem oI_none {g : Nat} {x : Int} (hg : g ≤ 9) : (oI (lo g x) = -1) = (lo g x = none) := oI_m1 _ (fun k hk => by have := lo_lt hk; omega)
theorem cX_wayFault {t : Nat} (ht : t < 4) (h : RC μ tn tb S) : Rt E MX10_wayFault [.ref 0, .ref (115 + 2 * t)] μ (some (.int (oI (wf (LN tn tb).1 (tn t) (tb t))))) μ := by
  obtain ⟨h1, h2, h3, h4, h5⟩ := h.1 t ht
  have hc := cap_le t
  have hk := sTx0 t ht
  refine Sp.go rfl rfl rfl (gX10_wayFault_0 hk ?_)
  have key : ∀ d k, k + d = tn t → wfu (LN tn tb).1 (tb t) d k = wf (LN tn tb).1 (tn t) (tb t) → Ex E MX10_wayFault (fun v' ν' => v' = some (.int (oI (wf (LN tn tb).1 (tn t) (tb t)))) ∧ ν' = μ) 2 [(0, .ref 0), (1, .ref (115 + 2 * t)), (2, .int (nI k))] [] μ := by
    intro d
    induction d with
    | zero =>
      intro k hk0 hw
      refine gX10_wayFault_2 hk (Rt.i (cT_size hk) ?_)
      rw [h3.1]
      simp (disch := omega) only [n_le]
      refine ⟨fun _ => ⟨by rw [← hw]; rfl, (by first | rfl | trivial)⟩, fun q => by omega⟩
    | succ d ih =>
      intro k hk0 hw
      refine gX10_wayFault_2 hk (Rt.i (cT_size hk) ?_)
      rw [h3.1]
      simp (disch := omega) only [n_le]
      refine ⟨fun q => by omega, fun _ => Rt.i (cT_atT ht h3 (by omega) (by omega)) (Rt.i (cL_letterOf h.2.1 _) ?_)⟩
      rw [tI_toInt h2, oI_none h.2.1.1]
      have e : tA (tn t) (tb t) k = (tb t k : Int) := by unfold tA; rw [if_pos (by omega)]
      rw [e]
      have hw' : (if lo (LN tn tb).1 (tb t k) = none then some k else wfu (LN tn tb).1 (tb t) d (k + 1)) = wf (LN tn tb).1 (tn t) (tb t) := hw
      refine ⟨fun q v9 e9 => ?_, fun q => ?_⟩
      · rw [if_neg q] at hw'
        rw [e9, nI_1]
        exact ih (k + 1) (by omega) hw'
      · rw [if_pos q] at hw'
        exact ⟨by rw [← hw']; rfl, (by first | rfl | trivial)⟩
  exact key (tn t) 0 (by omega) rfl
theorem cM_faultOf {t : Nat} (ht : t < 4) (h : RC μ tn tb S) : Sp E MX11_faultOf [.ref 123, .int (nI t)] μ (fun v m => ∃ r, v = some (.int r) ∧ (r = (if t = 0 then oI (land (tn 0) (tb 0)).1 else oI (wf (LN tn tb).1 (tn t) (tb t))) ∧ ML m (LN tn tb) ∧ RC m tn tb S ∧ Fr SQ μ m)) := by
  refine Sp.go rfl rfl rfl (gX11_faultOf_0 (Sp.i h.rl (fun r m hm => ?_)))
  obtain ⟨hr, hML, hRC, hf⟩ := hm
  simp (disch := omega) only [n_eq0]
  refine ⟨fun q => ?_, fun q => ⟨_, rfl, by rw [if_pos q]; exact hr, hML, hRC, hf⟩⟩
  rw [if_neg q]
  obtain ⟨h1, h2, h3, h4, h5⟩ := hRC.1 t ht
  have hc := cap_le t
  have key : ∀ d k, k + d = tn t → wfu (LN tn tb).1 (tb t) d k = wf (LN tn tb).1 (tn t) (tb t) → Ex E MX11_faultOf (fun v m => ∃ r, v = some (.int r) ∧ (r = oI (wf (LN tn tb).1 (tn t) (tb t)) ∧ ML m (LN tn tb) ∧ RC m tn tb S ∧ Fr SQ μ m)) 13 [(0, .ref 123), (1, .int (nI t)), (2, .int r), (3, .int (nI k))] [] m := by
    intro d
    induction d with
    | zero =>
      intro k hk0 hw
      refine gX11_faultOf_13 ?_
      simp (disch := omega) only [n_in, nI_clamp]
      rw [h4.1]
      simp (disch := omega) only [n_le]
      refine ⟨ht, fun _ => ⟨_, rfl, by rw [← hw]; rfl, hML, hRC, hf⟩, fun q => by omega⟩
    | succ d ih =>
      intro k hk0 hw
      refine gX11_faultOf_13 ?_
      simp (disch := omega) only [n_in, nI_clamp]
      rw [h4.1]
      simp (disch := omega) only [n_le]
      refine ⟨ht, fun q => by omega, fun _ => Rt.i (cM_from ht) ?_⟩
      have ho := offT_le ht (show k < cap t by omega)
      simp (disch := omega) only [nI_add, n_in, nI_clamp]
      refine ⟨ho, ?_⟩
      rw [h4.2 k (by omega)]
      refine Rt.i (cM_letterOf hML _) ?_
      rw [nI_toInt (by have := h2 k (by omega); omega), oI_none hML.1]
      have hw' : (if lo (LN tn tb).1 (tb t k) = none then some k else wfu (LN tn tb).1 (tb t) d (k + 1)) = wf (LN tn tb).1 (tn t) (tb t) := hw
      refine ⟨fun q v9 e9 => ?_, fun q => ?_⟩
      · rw [if_neg q] at hw'
        rw [e9, nI_1]
        exact ih (k + 1) (by omega) hw'
      · rw [if_pos q] at hw'
        exact ⟨_, rfl, by rw [← hw']; rfl, hML, hRC, hf⟩
  exact key (tn t) 0 (by omega) rfl
theorem op_fault (h : RC μ tn tb S) (x : Int32) : Op E MX10_fault MX11_fault [.int x] μ (fun ν => Fr SQ μ ν) := by
  refine Sp.go rfl rfl rfl (gX10_fault_0 (Rt.i (cX_isText x) ⟨fun c1 => ?_, fun c1 => ⟨_, rfl, ?_⟩⟩))
  · have c1' := c1
    rw [b2_0, Decidable.not_not] at c1
    obtain ⟨t, ht, rfl⟩ := Rg.nat (b := 3) c1
    simp (disch := omega) only [n_eq0, n_in, nI_clamp]
    refine ⟨fun q => ⟨by omega, Rt.i (cX_wayFault (by omega) h) ⟨_, rfl, ?_⟩⟩, fun q => ?_⟩
    · refine Sp.go rfl rfl rfl (gX11_fault_0 (Rt.i (cM_isText _) ⟨fun c => absurd c c1', fun _ => Sp.i (cM_faultOf (by omega) h) (fun r m hm => ⟨?_, hm.2.2.2⟩)⟩))
      rw [hm.1, if_neg q]
    · subst q
      refine Sp.go rfl rfl rfl (gX3_faultPlace_0 ⟨_, rfl, _, rfl, ?_⟩)
      refine Sp.go rfl rfl rfl (gX11_fault_0 (Rt.i (cM_isText _) ⟨fun c => absurd c c1', fun _ => Sp.i (cM_faultOf (by omega) h) (fun r m hm => ⟨?_, hm.2.2.2⟩)⟩))
      rw [hm.1, if_pos rfl, h.2.2.1]
  · exact Sp.go rfl rfl rfl (gX11_fault_0 (Rt.i (cM_isText _) ⟨fun _ => ⟨rfl, Fr.rf⟩, fun c => absurd c1 c⟩))
theorem op_room (h : RC μ tn tb S) : Op E MX10_room MX11_room [] μ (fun ν => Fr SQ μ ν) := by
  refine Sp.go rfl rfl rfl (gX10_room_0 (Sp.go rfl rfl rfl (gX3_roomTold_0 ⟨_, rfl, _, rfl, ?_⟩)))
  refine Sp.go rfl rfl rfl (gX11_room_0 (Sp.i h.rl (fun r m hm => ⟨?_, hm.2.2.2⟩)))
  rw [hm.2.1.2.2.2.2.1, h.2.1.2.2.2.2.2.1]
theorem op_shut (h : RC μ tn tb S) (x : Int32) : Op E MX10_shut MX11_shut [.int x] μ (fun ν => (∃ S', RC ν tn tb S') ∧ Fr (fun o k => (o = 1 ∧ k = 3) ∨ (o = 123 ∧ k = 13)) μ ν) := by
  have bad : ¬ Rg x 0 511 → Sp E MX11_shut [.ref 123, .int x] μ (fun v' ξ => v' = some (.int (-2)) ∧ (∃ S', RC ξ tn tb S') ∧ Fr (fun o k => (o = 1 ∧ k = 3) ∨ (o = 123 ∧ k = 13)) μ ξ) := by
    intro hx
    refine Sp.go rfl rfl rfl (gX11_shut_0 (Rt.i (cM_inL _ _ _) ⟨fun c => ?_, fun _ => ⟨rfl, ⟨S, h⟩, Fr.rf⟩⟩))
    rw [b2_0, Decidable.not_not] at c
    exact absurd c hx
  refine Sp.go rfl rfl rfl (gX10_shut_0 ?_)
  have z : (0 : Int32).toInt = 0 ∧ (511 : Int32).toInt = 511 := by decide
  refine ⟨fun c1 => ⟨_, rfl, bad ?_⟩, fun c1 => ⟨fun c2 => ?_, fun c2 => ⟨_, rfl, bad ?_⟩⟩⟩
  · rw [i_lt, z.1] at c1; unfold Rg; omega
  · rw [i_lt, z.1] at c1
    rw [i_le, z.2] at c2
    have hx : Rg x 0 511 := ⟨by omega, c2⟩
    obtain ⟨s, hs, rfl⟩ := Rg.nat (b := 511) hx
    refine Sp.go rfl rfl rfl (gX3_close_0 (fun v1 e1 => ⟨_, rfl, _, rfl, ?_⟩))
    refine Sp.go rfl rfl rfl (gX11_shut_0 (Rt.i (cM_inL _ _ _) ⟨fun _ v4 e4 => ⟨?_, ⟨s, ?_⟩, ?_⟩, fun c => ?_⟩))
    · rw [e4, e1, rd1 (by omega), h.2.2.2.2.1, h.2.2.2.2.2]
    · obtain ⟨h1, h2, h3, h4, h5, h6⟩ := h
      refine ⟨fun t ht => ?_, h2.fr rfl rfl rfl (fun _ _ => rfl), h3, by omega, rfl, rde⟩
      obtain ⟨g1, g2, g3, g4, g5⟩ := h1 t ht
      refine ⟨g1, g2, ⟨?_, fun k hk => ?_⟩, ⟨?_, fun k hk => ?_⟩, ?_⟩
      · rw [rd1 (by omega), rd1 (by omega)]; exact g3.1
      · rw [rd1 (by omega), rd1 (by omega)]; exact g3.2 k hk
      · rw [rd1 (by omega), rd1 (by omega)]; exact g4.1
      · rw [rd1 (by omega), rd1 (by omega)]; exact g4.2 k hk
      · rw [rd1 (by omega), rd1 (by omega)]; exact g5
    · exact Fr.tr (Fr.I (Or.inl ⟨rfl, rfl⟩)) (Fr.I (Or.inr ⟨rfl, rfl⟩))
    · rw [b2_0] at c
      exact absurd hx c
  · rw [i_le, z.2] at c2; unfold Rg; omega
end TEXTS
