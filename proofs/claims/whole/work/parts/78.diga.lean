section DIGA
variable {E : EV} {μ ν : Mem} {L : LD} {S : Nat} {tn : Nat → Nat} {tb : Nat → Nat → Nat} {s : LZ}
def cnV (L : LD) (tn : Nat → Nat) (s : LZ) (k : Nat) : Nat := if k = 0 then L.1 else if k = 1 then ct L.2.2.2.1 L.1 else if k ≤ 5 then tn (k - 2) else if k = 6 then s.1 else ct s.2.2 s.1
theorem cX_count0 (h : RC μ tn tb S) (hL : RLi μ s) : Rt E MX10_count [.ref 0, .int 0] μ (some (.int (nI (cnV (LN tn tb) tn s 0)))) μ := by
  obtain ⟨hB, hC, hM⟩ := hL
  exact Sp.go rfl rfl rfl (gX10_count_0 ⟨fun z => absurd z (by decide), fun _ => ⟨fun _ => ⟨fun _ => Rt.i (cL_gatesTold h.2.1) ⟨rfl, rfl⟩, fun e => absurd e (by decide), fun e => absurd e (by decide), fun e => absurd e (by decide), fun e => absurd e (by decide), fun e => absurd e (by decide), fun e => absurd e (by decide), fun e => absurd e (by decide), fun e => absurd e (by decide), fun q _ _ _ _ _ _ _ _ => absurd rfl q⟩, fun z => absurd (by decide) z⟩⟩)
theorem cX_count1 (h : RC μ tn tb S) (hL : RLi μ s) : Rt E MX10_count [.ref 0, .int 1] μ (some (.int (nI (cnV (LN tn tb) tn s 1)))) μ := by
  obtain ⟨hB, hC, hM⟩ := hL
  have hg := h.2.1.1
  have hw : wb (LN tn tb).1 (LN tn tb).2.2.2.1 < 2048 := Nat.lt_of_lt_of_le (wb_lt _ _) (Nat.le_trans (Nat.pow_le_pow_right (by decide) hg) (by decide))
  have cg : Rt E MX3_gatesWatched [.ref 1] μ (some (.int (nI (ct (LN tn tb).2.2.2.1 (LN tn tb).1)))) μ := by
    refine Sp.go rfl rfl rfl (gX3_gatesWatched_0 ?_)
    rw [h.2.1.2.2.2.2.1]
    exact Rt.i (cJ_bitCount hw) ⟨by rw [ctb_wb hg], rfl⟩
  exact Sp.go rfl rfl rfl (gX10_count_0 ⟨fun z => absurd z (by decide), fun _ => ⟨fun _ => ⟨fun e => absurd e (by decide), fun _ => Rt.i cg ⟨rfl, rfl⟩, fun e => absurd e (by decide), fun e => absurd e (by decide), fun e => absurd e (by decide), fun e => absurd e (by decide), fun e => absurd e (by decide), fun e => absurd e (by decide), fun e => absurd e (by decide), fun _ q _ _ _ _ _ _ _ => absurd rfl q⟩, fun z => absurd (by decide) z⟩⟩)
theorem cX_count2 (h : RC μ tn tb S) (hL : RLi μ s) : Rt E MX10_count [.ref 0, .int 2] μ (some (.int (nI (cnV (LN tn tb) tn s 2)))) μ := by
  obtain ⟨hB, hC, hM⟩ := hL
  obtain ⟨h1, h2, h3, h4, h5⟩ := h.1 0 (by decide)
  have hv : vp_in ((2 : Int32) - 2) 4 := by rw [show (2 : Int32) - 2 = nI 0 by decide, n_in (by decide) (by decide)]; decide
  have cg : Rt E MX8_size [.ref (115 + 2 * 0)] μ (some (.int (nI (tn 0)))) μ := by
    have := cT_size (E := E) (μ := μ) (o := 115 + 2 * 0) (sTx0 0 (by decide))
    rw [h3.1] at this
    exact this
  exact Sp.go rfl rfl rfl (gX10_count_0 ⟨fun z => absurd z (by decide), fun _ => ⟨fun _ => ⟨fun e => absurd e (by decide), fun e => absurd e (by decide), fun _ => ⟨hv, Rt.i cg ⟨rfl, rfl⟩⟩, fun e => absurd e (by decide), fun e => absurd e (by decide), fun e => absurd e (by decide), fun e => absurd e (by decide), fun e => absurd e (by decide), fun e => absurd e (by decide), fun _ _ q _ _ _ _ _ _ => absurd rfl q⟩, fun z => absurd (by decide) z⟩⟩)
theorem cX_count3 (h : RC μ tn tb S) (hL : RLi μ s) : Rt E MX10_count [.ref 0, .int 3] μ (some (.int (nI (cnV (LN tn tb) tn s 3)))) μ := by
  obtain ⟨hB, hC, hM⟩ := hL
  obtain ⟨h1, h2, h3, h4, h5⟩ := h.1 1 (by decide)
  have hv : vp_in ((3 : Int32) - 2) 4 := by rw [show (3 : Int32) - 2 = nI 1 by decide, n_in (by decide) (by decide)]; decide
  have cg : Rt E MX8_size [.ref (115 + 2 * 1)] μ (some (.int (nI (tn 1)))) μ := by
    have := cT_size (E := E) (μ := μ) (o := 115 + 2 * 1) (sTx0 1 (by decide))
    rw [h3.1] at this
    exact this
  exact Sp.go rfl rfl rfl (gX10_count_0 ⟨fun z => absurd z (by decide), fun _ => ⟨fun _ => ⟨fun e => absurd e (by decide), fun e => absurd e (by decide), fun e => absurd e (by decide), fun _ => ⟨hv, Rt.i cg ⟨rfl, rfl⟩⟩, fun e => absurd e (by decide), fun e => absurd e (by decide), fun e => absurd e (by decide), fun e => absurd e (by decide), fun e => absurd e (by decide), fun _ _ _ q _ _ _ _ _ => absurd rfl q⟩, fun z => absurd (by decide) z⟩⟩)
theorem cX_count4 (h : RC μ tn tb S) (hL : RLi μ s) : Rt E MX10_count [.ref 0, .int 4] μ (some (.int (nI (cnV (LN tn tb) tn s 4)))) μ := by
  obtain ⟨hB, hC, hM⟩ := hL
  obtain ⟨h1, h2, h3, h4, h5⟩ := h.1 2 (by decide)
  have hv : vp_in ((4 : Int32) - 2) 4 := by rw [show (4 : Int32) - 2 = nI 2 by decide, n_in (by decide) (by decide)]; decide
  have cg : Rt E MX8_size [.ref (115 + 2 * 2)] μ (some (.int (nI (tn 2)))) μ := by
    have := cT_size (E := E) (μ := μ) (o := 115 + 2 * 2) (sTx0 2 (by decide))
    rw [h3.1] at this
    exact this
  exact Sp.go rfl rfl rfl (gX10_count_0 ⟨fun z => absurd z (by decide), fun _ => ⟨fun _ => ⟨fun e => absurd e (by decide), fun e => absurd e (by decide), fun e => absurd e (by decide), fun e => absurd e (by decide), fun _ => ⟨hv, Rt.i cg ⟨rfl, rfl⟩⟩, fun e => absurd e (by decide), fun e => absurd e (by decide), fun e => absurd e (by decide), fun e => absurd e (by decide), fun _ _ _ _ q _ _ _ _ => absurd rfl q⟩, fun z => absurd (by decide) z⟩⟩)
theorem cX_count5 (h : RC μ tn tb S) (hL : RLi μ s) : Rt E MX10_count [.ref 0, .int 5] μ (some (.int (nI (cnV (LN tn tb) tn s 5)))) μ := by
  obtain ⟨hB, hC, hM⟩ := hL
  obtain ⟨h1, h2, h3, h4, h5⟩ := h.1 3 (by decide)
  have hv : vp_in ((5 : Int32) - 2) 4 := by rw [show (5 : Int32) - 2 = nI 3 by decide, n_in (by decide) (by decide)]; decide
  have cg : Rt E MX8_size [.ref (115 + 2 * 3)] μ (some (.int (nI (tn 3)))) μ := by
    have := cT_size (E := E) (μ := μ) (o := 115 + 2 * 3) (sTx0 3 (by decide))
    rw [h3.1] at this
    exact this
  exact Sp.go rfl rfl rfl (gX10_count_0 ⟨fun z => absurd z (by decide), fun _ => ⟨fun _ => ⟨fun e => absurd e (by decide), fun e => absurd e (by decide), fun e => absurd e (by decide), fun e => absurd e (by decide), fun e => absurd e (by decide), fun _ => ⟨hv, Rt.i cg ⟨rfl, rfl⟩⟩, fun e => absurd e (by decide), fun e => absurd e (by decide), fun e => absurd e (by decide), fun _ _ _ _ _ q _ _ _ => absurd rfl q⟩, fun z => absurd (by decide) z⟩⟩)
theorem cX_count6 (h : RC μ tn tb S) (hL : RLi μ s) : Rt E MX10_count [.ref 0, .int 6] μ (some (.int (nI (cnV (LN tn tb) tn s 6)))) μ := by
  obtain ⟨hB, hC, hM⟩ := hL
  exact Sp.go rfl rfl rfl (gX10_count_0 ⟨fun z => absurd z (by decide), fun _ => ⟨fun _ => ⟨fun e => absurd e (by decide), fun e => absurd e (by decide), fun e => absurd e (by decide), fun e => absurd e (by decide), fun e => absurd e (by decide), fun e => absurd e (by decide), fun _ => Rt.i (cI_size hC) ⟨rfl, rfl⟩, fun e => absurd e (by decide), fun e => absurd e (by decide), fun _ _ _ _ _ _ q _ _ => absurd rfl q⟩, fun z => absurd (by decide) z⟩⟩)
theorem cX_count7 (h : RC μ tn tb S) (hL : RLi μ s) : Rt E MX10_count [.ref 0, .int 7] μ (some (.int (nI (cnV (LN tn tb) tn s 7)))) μ := by
  obtain ⟨hB, hC, hM⟩ := hL
  exact Sp.go rfl rfl rfl (gX10_count_0 ⟨fun z => absurd z (by decide), fun _ => ⟨fun _ => ⟨fun e => absurd e (by decide), fun e => absurd e (by decide), fun e => absurd e (by decide), fun e => absurd e (by decide), fun e => absurd e (by decide), fun e => absurd e (by decide), fun e => absurd e (by decide), fun _ => Rt.i (cI_goodOnes hB hC) ⟨rfl, rfl⟩, fun e => absurd e (by decide), fun _ _ _ _ _ _ _ q _ => absurd rfl q⟩, fun z => absurd (by decide) z⟩⟩)
theorem cX_count {k : Nat} (h : RC μ tn tb S) (hL : RLi μ s) (hk : k < 8) : Rt E MX10_count [.ref 0, .int (nI k)] μ (some (.int (nI (cnV (LN tn tb) tn s k)))) μ := by
  rcases (show k = 0 ∨ k = 1 ∨ k = 2 ∨ k = 3 ∨ k = 4 ∨ k = 5 ∨ k = 6 ∨ k = 7 by omega) with rfl | rfl | rfl | rfl | rfl | rfl | rfl | rfl
  · exact cX_count0 h hL
  · exact cX_count1 h hL
  · exact cX_count2 h hL
  · exact cX_count3 h hL
  · exact cX_count4 h hL
  · exact cX_count5 h hL
  · exact cX_count6 h hL
  · exact cX_count7 h hL
theorem cM_count0 (h : RC μ tn tb S) (hL : RLi μ s) : Sp E MX11_count [.ref 123, .int 0] μ (fun v ν => ∃ r, v = some (.int r) ∧ (r = nI (cnV (LN tn tb) tn s 0) ∧ Fr SQ μ ν)) := by
  obtain ⟨hB, hC, hM⟩ := hL
  have h12 := hB.1
  refine Sp.go rfl rfl rfl (gX11_count_0 (Sp.i h.rl (fun r m hm => ?_)))
  obtain ⟨-, hML, hRC, hf⟩ := hm
  have hLM : LM m s := hM.fr hf (by unfold SQ; omega) (fun o k _ _ => by unfold SQ; omega)
  exact ⟨fun _ => ⟨_, rfl, hML.2.2.2.1, hf⟩, fun e => absurd e (by decide), fun e => absurd e (by decide), fun e => absurd e (by decide), fun e => absurd e (by decide), fun e => absurd e (by decide), fun e => absurd e (by decide), fun e => absurd e (by decide), fun e => absurd e (by decide), fun q _ _ _ _ _ _ _ _ => absurd rfl q⟩
theorem cM_count1 (h : RC μ tn tb S) (hL : RLi μ s) : Sp E MX11_count [.ref 123, .int 1] μ (fun v ν => ∃ r, v = some (.int r) ∧ (r = nI (cnV (LN tn tb) tn s 1) ∧ Fr SQ μ ν)) := by
  obtain ⟨hB, hC, hM⟩ := hL
  have h12 := hB.1
  refine Sp.go rfl rfl rfl (gX11_count_0 (Sp.i h.rl (fun r m hm => ?_)))
  obtain ⟨-, hML, hRC, hf⟩ := hm
  have hLM : LM m s := hM.fr hf (by unfold SQ; omega) (fun o k _ _ => by unfold SQ; omega)
  refine ⟨fun e => absurd e (by decide), fun _ => ?_, fun e => absurd e (by decide), fun e => absurd e (by decide), fun e => absurd e (by decide), fun e => absurd e (by decide), fun e => absurd e (by decide), fun e => absurd e (by decide), fun e => absurd e (by decide), fun _ q _ _ _ _ _ _ _ => absurd rfl q⟩
  have key : ∀ d k, k + d = (LN tn tb).1 → Ex E MX11_count (fun v ν => ∃ r, v = some (.int r) ∧ (r = nI (cnV (LN tn tb) tn s 1) ∧ Fr SQ μ ν)) 67 [(0, .ref 123), (1, .int 1), (2, .int (nI (ct (LN tn tb).2.2.2.1 k))), (3, .int (nI k))] [] m := by
    have hg := hML.1
    intro d
    induction d with
    | zero =>
      intro k hk
      refine gX11_count_67 ?_
      rw [hML.2.2.2.1, n_le (by omega) (by omega)]
      exact ⟨fun _ => ⟨_, rfl, by rw [show k = (LN tn tb).1 by omega]; rfl, hf⟩, fun z => by omega⟩
    | succ d ih =>
      intro k hk
      have hm := (hML.2.2.2.2.2 k (by omega)).2.2.2.2
      refine gX11_count_67 ?_
      rw [hML.2.2.2.1]
      simp (disch := omega) only [n_le, n_in, nI_clamp, n_addc]
      rw [hm]
      refine ⟨fun z => by omega, fun _ => ⟨by omega, fun z v4 e4 v5 e5 => ?_, fun z v4 e4 v5 e5 => ?_⟩⟩
      · have := ih (k + 1) (by omega)
        rw [ct_s, if_neg (by intro q; rw [if_pos q] at z; exact absurd z (by decide))] at this
        rw [e4, e5]
        exact this
      · have := ih (k + 1) (by omega)
        rw [ct_s, if_pos (by apply Decidable.byContradiction; intro q; rw [if_neg q] at z; exact z rfl)] at this
        rw [e4, e5]
        exact this
  exact key (LN tn tb).1 0 (by omega)
theorem cM_count2 (h : RC μ tn tb S) (hL : RLi μ s) : Sp E MX11_count [.ref 123, .int 2] μ (fun v ν => ∃ r, v = some (.int r) ∧ (r = nI (cnV (LN tn tb) tn s 2) ∧ Fr SQ μ ν)) := by
  obtain ⟨hB, hC, hM⟩ := hL
  have h12 := hB.1
  refine Sp.go rfl rfl rfl (gX11_count_0 (Sp.i h.rl (fun r m hm => ?_)))
  obtain ⟨-, hML, hRC, hf⟩ := hm
  have hLM : LM m s := hM.fr hf (by unfold SQ; omega) (fun o k _ _ => by unfold SQ; omega)
  obtain ⟨h1, h2, h3, h4, h5⟩ := hRC.1 0 (by decide)
  have hv : vp_in ((2 : Int32) - 2) 4 := by rw [show (2 : Int32) - 2 = nI 0 by decide, n_in (by decide) (by decide)]; decide
  exact ⟨fun e => absurd e (by decide), fun e => absurd e (by decide), fun _ => ⟨hv, _, rfl, h4.1, hf⟩, fun e => absurd e (by decide), fun e => absurd e (by decide), fun e => absurd e (by decide), fun e => absurd e (by decide), fun e => absurd e (by decide), fun e => absurd e (by decide), fun _ _ q _ _ _ _ _ _ => absurd rfl q⟩
theorem cM_count3 (h : RC μ tn tb S) (hL : RLi μ s) : Sp E MX11_count [.ref 123, .int 3] μ (fun v ν => ∃ r, v = some (.int r) ∧ (r = nI (cnV (LN tn tb) tn s 3) ∧ Fr SQ μ ν)) := by
  obtain ⟨hB, hC, hM⟩ := hL
  have h12 := hB.1
  refine Sp.go rfl rfl rfl (gX11_count_0 (Sp.i h.rl (fun r m hm => ?_)))
  obtain ⟨-, hML, hRC, hf⟩ := hm
  have hLM : LM m s := hM.fr hf (by unfold SQ; omega) (fun o k _ _ => by unfold SQ; omega)
  obtain ⟨h1, h2, h3, h4, h5⟩ := hRC.1 1 (by decide)
  have hv : vp_in ((3 : Int32) - 2) 4 := by rw [show (3 : Int32) - 2 = nI 1 by decide, n_in (by decide) (by decide)]; decide
  exact ⟨fun e => absurd e (by decide), fun e => absurd e (by decide), fun e => absurd e (by decide), fun _ => ⟨hv, _, rfl, h4.1, hf⟩, fun e => absurd e (by decide), fun e => absurd e (by decide), fun e => absurd e (by decide), fun e => absurd e (by decide), fun e => absurd e (by decide), fun _ _ _ q _ _ _ _ _ => absurd rfl q⟩
theorem cM_count4 (h : RC μ tn tb S) (hL : RLi μ s) : Sp E MX11_count [.ref 123, .int 4] μ (fun v ν => ∃ r, v = some (.int r) ∧ (r = nI (cnV (LN tn tb) tn s 4) ∧ Fr SQ μ ν)) := by
  obtain ⟨hB, hC, hM⟩ := hL
  have h12 := hB.1
  refine Sp.go rfl rfl rfl (gX11_count_0 (Sp.i h.rl (fun r m hm => ?_)))
  obtain ⟨-, hML, hRC, hf⟩ := hm
  have hLM : LM m s := hM.fr hf (by unfold SQ; omega) (fun o k _ _ => by unfold SQ; omega)
  obtain ⟨h1, h2, h3, h4, h5⟩ := hRC.1 2 (by decide)
  have hv : vp_in ((4 : Int32) - 2) 4 := by rw [show (4 : Int32) - 2 = nI 2 by decide, n_in (by decide) (by decide)]; decide
  exact ⟨fun e => absurd e (by decide), fun e => absurd e (by decide), fun e => absurd e (by decide), fun e => absurd e (by decide), fun _ => ⟨hv, _, rfl, h4.1, hf⟩, fun e => absurd e (by decide), fun e => absurd e (by decide), fun e => absurd e (by decide), fun e => absurd e (by decide), fun _ _ _ _ q _ _ _ _ => absurd rfl q⟩
theorem cM_count5 (h : RC μ tn tb S) (hL : RLi μ s) : Sp E MX11_count [.ref 123, .int 5] μ (fun v ν => ∃ r, v = some (.int r) ∧ (r = nI (cnV (LN tn tb) tn s 5) ∧ Fr SQ μ ν)) := by
  obtain ⟨hB, hC, hM⟩ := hL
  have h12 := hB.1
  refine Sp.go rfl rfl rfl (gX11_count_0 (Sp.i h.rl (fun r m hm => ?_)))
  obtain ⟨-, hML, hRC, hf⟩ := hm
  have hLM : LM m s := hM.fr hf (by unfold SQ; omega) (fun o k _ _ => by unfold SQ; omega)
  obtain ⟨h1, h2, h3, h4, h5⟩ := hRC.1 3 (by decide)
  have hv : vp_in ((5 : Int32) - 2) 4 := by rw [show (5 : Int32) - 2 = nI 3 by decide, n_in (by decide) (by decide)]; decide
  exact ⟨fun e => absurd e (by decide), fun e => absurd e (by decide), fun e => absurd e (by decide), fun e => absurd e (by decide), fun e => absurd e (by decide), fun _ => ⟨hv, _, rfl, h4.1, hf⟩, fun e => absurd e (by decide), fun e => absurd e (by decide), fun e => absurd e (by decide), fun _ _ _ _ _ q _ _ _ => absurd rfl q⟩
theorem cM_count6 (h : RC μ tn tb S) (hL : RLi μ s) : Sp E MX11_count [.ref 123, .int 6] μ (fun v ν => ∃ r, v = some (.int r) ∧ (r = nI (cnV (LN tn tb) tn s 6) ∧ Fr SQ μ ν)) := by
  obtain ⟨hB, hC, hM⟩ := hL
  have h12 := hB.1
  refine Sp.go rfl rfl rfl (gX11_count_0 (Sp.i h.rl (fun r m hm => ?_)))
  obtain ⟨-, hML, hRC, hf⟩ := hm
  have hLM : LM m s := hM.fr hf (by unfold SQ; omega) (fun o k _ _ => by unfold SQ; omega)
  exact ⟨fun e => absurd e (by decide), fun e => absurd e (by decide), fun e => absurd e (by decide), fun e => absurd e (by decide), fun e => absurd e (by decide), fun e => absurd e (by decide), fun _ => ⟨_, rfl, hLM.1, hf⟩, fun e => absurd e (by decide), fun e => absurd e (by decide), fun _ _ _ _ _ _ q _ _ => absurd rfl q⟩
theorem cM_count7 (h : RC μ tn tb S) (hL : RLi μ s) : Sp E MX11_count [.ref 123, .int 7] μ (fun v ν => ∃ r, v = some (.int r) ∧ (r = nI (cnV (LN tn tb) tn s 7) ∧ Fr SQ μ ν)) := by
  obtain ⟨hB, hC, hM⟩ := hL
  have h12 := hB.1
  refine Sp.go rfl rfl rfl (gX11_count_0 (Sp.i h.rl (fun r m hm => ?_)))
  obtain ⟨-, hML, hRC, hf⟩ := hm
  have hLM : LM m s := hM.fr hf (by unfold SQ; omega) (fun o k _ _ => by unfold SQ; omega)
  refine ⟨fun e => absurd e (by decide), fun e => absurd e (by decide), fun e => absurd e (by decide), fun e => absurd e (by decide), fun e => absurd e (by decide), fun e => absurd e (by decide), fun e => absurd e (by decide), fun _ => ?_, fun e => absurd e (by decide), fun _ _ _ _ _ _ _ q _ => absurd rfl q⟩
  have key : ∀ d k, k + d = s.1 → Ex E MX11_count (fun v ν => ∃ r, v = some (.int r) ∧ (r = nI (cnV (LN tn tb) tn s 7) ∧ Fr SQ μ ν)) 116 [(0, .ref 123), (1, .int 7), (2, .int (nI (ct s.2.2 k))), (3, .int (nI k))] [] m := by
    intro d
    induction d with
    | zero =>
      intro k hk
      refine gX11_count_116 ?_
      rw [hLM.1, n_le (by omega) (by omega)]
      exact ⟨fun _ => ⟨_, rfl, by rw [show k = s.1 by omega]; rfl, hf⟩, fun z => by omega⟩
    | succ d ih =>
      intro k hk
      have hm := (hLM.2 k (by omega)).2.1
      refine gX11_count_116 ?_
      rw [hLM.1]
      simp (disch := omega) only [n_le, n_in, nI_clamp, n_addc]
      rw [hm, b2_0]
      refine ⟨fun z => by omega, fun _ => ⟨by omega, fun z v4 e4 v5 e5 => ?_, fun z v4 e4 v5 e5 => ?_⟩⟩
      · have := ih (k + 1) (by omega)
        rw [ct_s, if_neg z] at this
        rw [e4, e5]
        exact this
      · have := ih (k + 1) (by omega)
        rw [ct_s, if_pos (Decidable.not_not.mp z)] at this
        rw [e4, e5]
        exact this
  exact key s.1 0 (by omega)
theorem cM_count {k : Nat} (h : RC μ tn tb S) (hL : RLi μ s) (hk : k < 8) : Sp E MX11_count [.ref 123, .int (nI k)] μ (fun v ν => ∃ r, v = some (.int r) ∧ (r = nI (cnV (LN tn tb) tn s k) ∧ Fr SQ μ ν)) := by
  rcases (show k = 0 ∨ k = 1 ∨ k = 2 ∨ k = 3 ∨ k = 4 ∨ k = 5 ∨ k = 6 ∨ k = 7 by omega) with rfl | rfl | rfl | rfl | rfl | rfl | rfl | rfl
  · exact cM_count0 h hL
  · exact cM_count1 h hL
  · exact cM_count2 h hL
  · exact cM_count3 h hL
  · exact cM_count4 h hL
  · exact cM_count5 h hL
  · exact cM_count6 h hL
  · exact cM_count7 h hL
def ftV (tn : Nat → Nat) (tb : Nat → Nat → Nat) (t : Nat) : Int32 := if t = 0 then oI (land (tn 0) (tb 0)).1 else oI (wf (LN tn tb).1 (tn t) (tb t))
theorem cX_fault {t : Nat} (h : RC μ tn tb S) (ht : t < 4) : Rt E MX10_fault [.ref 0, .int (nI t)] μ (some (.int (ftV tn tb t))) μ := by
  unfold ftV
  refine Sp.go rfl rfl rfl (gX10_fault_0 (Rt.i (cX_isText _) ⟨fun _ => ?_, fun z => ?_⟩))
  · simp (disch := omega) only [n_eq0, n_in, nI_clamp]
    refine ⟨fun q => ⟨by omega, Rt.i (cX_wayFault (by omega) h) ⟨by rw [if_neg q], rfl⟩⟩, fun q => ?_⟩
    rw [if_pos q]
    exact Sp.go rfl rfl rfl (gX3_faultPlace_0 ⟨_, rfl, by rw [h.2.2.1], rfl⟩)
  · rw [b2_0, Rg.nI (by omega)] at z
    omega
def gtV (L : LD) (S j k : Nat) : Int32 := if k = 0 then nI (L.2.1 j) else if k = 1 then nI (L.2.2.1 j) else if k = 2 then (if L.2.2.2.1 j then 1 else 0) else (if S.testBit j then 1 else 0)
theorem cX_gate {j k : Nat} (h : RC μ tn tb S) (hj : j < (LN tn tb).1) (hk : k ≤ 3) : Rt E MX10_gate [.ref 0, .int (nI j), .int (nI k)] μ (some (.int (gtV (LN tn tb) S j k))) μ := by
  have hL := h.2.1
  have hg := hL.1
  have m0 : 2 * j % 2 = 0 := by omega
  have d0 : 2 * j / 2 = j := by omega
  refine Sp.go rfl rfl rfl (gX10_gate_0 (Rt.i (cL_hasGate hL _) ⟨fun c => absurd c (hg_ok hj hg), fun _ => ?_⟩))
  rw [n_lt0 (by omega), n_lec (by omega) (by decide)]
  refine ⟨fun c => c.elim, fun _ => ⟨fun _ => ?_, fun c => absurd (show k ≤ 3 from hk) c⟩⟩
  simp (disch := omega) only [n_eqc, n_eq0, n_cmul]
  unfold gtV
  refine ⟨fun k0 => ?_, fun k1 => ?_, fun k2 => ?_, fun k0 k1 k2 => ?_⟩
  · refine Rt.i (cL_from hL (by omega)) ⟨?_, by first | rfl | trivial⟩
    unfold lS
    rw [if_pos k0, if_pos m0, d0]
  · refine Rt.i (cL_to hL (by omega)) ⟨?_, by first | rfl | trivial⟩
    unfold lE lS bk
    rw [if_pos m0, if_neg (by omega), if_neg (by omega), if_pos k1, show (2 * j + 1) / 2 = j by omega]
  · refine Rt.i (cL_isWatched hL (by omega)) ⟨fun q => ⟨?_, by first | rfl | trivial⟩, fun q => ⟨?_, by first | rfl | trivial⟩⟩
    · rw [b2_0] at q
      unfold lW at q
      rw [d0] at q
      rw [if_neg (by omega), if_neg (by omega), if_pos k2, if_neg q]
    · rw [b2_0, Decidable.not_not] at q
      unfold lW at q
      rw [d0] at q
      rw [if_neg (by omega), if_neg (by omega), if_pos k2, if_pos q]
  · refine Rt.i (cL_isOpen h.2.2.2.1 h.2.2.2.2.1 (by omega)) ⟨fun q => ⟨?_, by first | rfl | trivial⟩, fun q => ⟨?_, by first | rfl | trivial⟩⟩
    · rw [b2_0] at q
      unfold lO at q
      rw [d0] at q
      rw [if_neg k0, if_neg k1, if_neg k2, if_pos (by simpa using q)]
    · rw [b2_0, Decidable.not_not] at q
      unfold lO at q
      rw [d0] at q
      rw [if_neg k0, if_neg k1, if_neg k2, if_neg (by simpa using q)]
theorem cX_paperN {t : Nat} (h : RC μ tn tb S) (ht : 1 ≤ t ∧ t < 4) : Sp E MX10_paper [.ref 0, .int (nI t), .int (-1)] μ (fun v ν => ∃ r, v = some (.int r) ∧ (r = nI (PW (LN tn tb) tn tb t).1 ∧ Fr SQ μ ν)) := by
  refine Sp.go rfl rfl rfl (gX10_paper_0 (Rt.i (cX_isWay _) ⟨fun z => ?_, fun _ => ⟨fun _ => Sp.v (cX_stampWay h (Or.inl rfl) ht.2) (fun m hm => ⟨fun z => absurd rfl z, fun _ => Rt.i (cP_size (by decide)) ⟨_, rfl, hm.1.1, hm.2.up (fun o k w => S47_SQ (by omega) k)⟩⟩), fun z => absurd (by decide) z⟩⟩))
  rw [b2_0, Rg.nI (by omega)] at z
  omega
theorem cX_paperK {t k : Nat} (h : RC μ tn tb S) (ht : 1 ≤ t ∧ t < 4) (hk : k < (PW (LN tn tb) tn tb t).1) : Sp E MX10_paper [.ref 0, .int (nI t), .int (nI k)] μ (fun v ν => ∃ r, v = some (.int r) ∧ (r = nI (byO ((PW (LN tn tb) tn tb t).2 k)) ∧ Fr SQ μ ν)) := by
  have hok := h.pok ht.2
  have h1 := hok.1
  have hl := hok.2 k hk
  have hg := h.2.1.1
  refine Sp.go rfl rfl rfl (gX10_paper_0 (Rt.i (cX_isWay _) ⟨fun z => ?_, fun _ => ⟨fun _ => Sp.v (cX_stampWay h (Or.inl rfl) ht.2) (fun m hm => ⟨fun z => Rt.i (cP_atP (by decide) hm.1 (by omega) (by omega)) ?_, fun z => absurd z (ng_m1 (by omega))⟩), fun z => absurd ?_ z⟩⟩))
  · rw [b2_0, Rg.nI (by omega)] at z
    omega
  · rw [if_pos hk]
    exact Rt.i (cX_byteOf (by omega)) ⟨_, rfl, rfl, hm.2.up (fun o k w => S47_SQ (by omega) k)⟩
  · rw [m1_le, nI_toInt (by omega)]
    omega
theorem cX_slips7 (hL : RLi μ s) : Rt E MX10_slips [.ref 0, .int 7] μ (some (.int (nI (ct (slw s 7) s.1)))) μ := by
  refine Sp.go rfl rfl rfl (gX10_slips_0 (Rt.i (cX_arePlaces _) ⟨fun z => absurd z (by decide), fun _ => Rt.i (cI_slipping (P := 7) (by decide) hL.1 hL.2.1) ⟨rfl, rfl⟩⟩))
theorem cX_fewest (hL : RLi μ s) : Sp E MX10_fewest [.ref 0] μ (fun v ν => ∃ r, v = some (.int r) ∧ (r = oI (fw (okU s) 2048) ∧ Fr SQ μ ν)) :=
  Sp.go rfl rfl rfl (gX10_fewest_0 (Sp.i (cI_fewest hL.1 hL.2.1) (fun r m hm => ⟨_, rfl, hm.1, hm.2.up (fun a k q => by unfold S82 at q; unfold SQ; omega)⟩)))
theorem jR_town {t : Nat} (h : RC μ tn tb S) (ht : 1 ≤ t ∧ t < 4) : (jR (LN tn tb) S tn tb t 0 0).2.1 < 8 := by
  have hn := nW_le (L := LN tn tb) h ht.2
  refine (jd_ok (S := S) (b := tb t) h.2.1.1 (fun l hl => lE_lt h.2.1 hl) (nW (LN tn tb) tn tb t) (fun k hk => (nW_ltr hk).1) _ 0 _ (by omega) ⟨(show (0 : Nat) < 8 by decide), ?_, Nat.le_refl _, ?_, Nat.le_refl _⟩).1.1
  · exact h.pok (by decide)
  · exact (h.pok (t := 0) (by decide)).1
end DIGA
