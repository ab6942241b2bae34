section COUNT
variable {E : EV} {μ ν : Mem} {tn : Nat → Nat} {tb : Nat → Nat → Nat} {S : Nat} {s : LZ}
theorem ct_s (w : Nat → Bool) (k : Nat) : ct w (k + 1) = ct w k + if w k then 1 else 0 := rfl
theorem cI_goodOnes (hB : LB s) (hC : LC μ s) : Rt E MX4_goodOnes [.ref 78] μ (some (.int (nI (ct s.2.2 s.1)))) μ := by
  have h12 := hB.1
  refine Sp.go rfl rfl rfl (gX4_goodOnes_0 ?_)
  have key : ∀ d k, k + d = s.1 → Ex E MX4_goodOnes (fun v m => v = some (.int (nI (ct s.2.2 s.1))) ∧ m = μ) 4 [(0, .ref 78), (1, .int (nI (ct s.2.2 k))), (2, .int (nI k))] [] μ := by
    intro d
    induction d with
    | zero =>
      intro k hk
      have : k = s.1 := by omega
      subst this
      refine gX4_goodOnes_4 ?_
      rw [hC.1]
      simp (disch := omega) only [n_le]
      exact ⟨fun _ => ⟨(by first | rfl | trivial), (by first | rfl | trivial)⟩, fun z => by omega⟩
    | succ d ih =>
      intro k hk
      refine gX4_goodOnes_4 ?_
      rw [hC.1]
      simp (disch := omega) only [n_le, n_in, nI_clamp]
      refine ⟨fun z => by omega, fun _ => ⟨by omega, fun v3 e3 v4 e4 => ?_⟩⟩
      have : v3 = nI (ct s.2.2 (k + 1)) := by
        rw [e3, (hC.2 k (by omega)).2.1, ct_s]
        cases s.2.2 k
        · exact nI_add _ 0
        · exact nI_add _ 1
      rw [this, e4, n_addc]
      exact ih (k + 1) (by omega)
  exact key s.1 0 (by omega)
theorem op_count (h : RC μ tn tb S) (hS : RS μ) (hL : RLi μ s) (x : Int32) : Op E MX10_count MX11_count [.int x] μ (fun ν => Fr SQ μ ν) := by
  obtain ⟨hB, hC, hM⟩ := hL
  have h12 := hB.1
  have e0 : (0 : Int32).toInt = 0 := by decide
  have e8 : (8 : Int32).toInt = 8 := by decide
  have md : ∀ {x : Int32} {F : Int32 → Mem → Prop}, (∀ r m, ML m (LN tn tb) → LM m s → Fr SM μ m → F r m) → Sp E MX11_readsLand [.ref 123] μ (fun v m => ∃ r, v = some (.int r) ∧ F r m) := fun k => Sp.i h.rlM (fun r m hm => k r m hm.2.1 (hM.fr hm.2.2 (by unfold SM; omega) (fun o k _ _ => by unfold SM; omega)) hm.2.2)
  have fq : ∀ {m : Mem}, Fr SM μ m → Fr SQ μ m := fun hf => hf.up (fun _ _ => SM_up)
  have bad : ¬ (0 ≤ x.toInt ∧ x.toInt ≤ 8) → Sp E MX11_count [.ref 123, .int x] μ (fun v' ξ => v' = some (.int (-2)) ∧ Fr SQ μ ξ) := by
    intro hb
    refine Sp.go rfl rfl rfl (gX11_count_0 (md (x := x) (fun r m _ _ hf => ?_)))
    refine ⟨fun e => absurd (by subst e; decide) hb, fun e => absurd (by subst e; decide) hb, fun e => absurd (by subst e; decide) hb, fun e => absurd (by subst e; decide) hb, fun e => absurd (by subst e; decide) hb, fun e => absurd (by subst e; decide) hb, fun e => absurd (by subst e; decide) hb, fun e => absurd (by subst e; decide) hb, fun e => absurd (by subst e; decide) hb, fun _ _ _ _ _ _ _ _ _ => ⟨rfl, fq hf⟩⟩
  refine Sp.go rfl rfl rfl (gX10_count_0 ?_)
  refine ⟨fun z => ⟨_, rfl, bad (by rw [i_lt, e0] at z; omega)⟩, fun z1 => ⟨fun z2 => ⟨fun e => ?_, fun e => ?_, fun e => ?_, fun e => ?_, fun e => ?_, fun e => ?_, fun e => ?_, fun e => ?_, fun e => ?_, fun q0 q1 q2 q3 q4 q5 q6 q7 q8 => ?_⟩, fun z => ⟨_, rfl, bad (by rw [i_le, e8] at z; omega)⟩⟩⟩
  · subst e
    have cg : Rt E MX3_gatesTold [.ref 1] μ (some (.int (nI (LN tn tb).1))) μ := Sp.go rfl rfl rfl (gX3_gatesTold_0 ⟨by rw [h.2.1.2.2.2.1], rfl⟩)
    exact Rt.i cg ⟨_, rfl, Sp.go rfl rfl rfl (gX11_count_0 (md (x := 0) (fun r m hML hLM hf => ⟨fun _ => ⟨by rw [hML.2.2.2.1], fq hf⟩, fun e => absurd e (by decide), fun e => absurd e (by decide), fun e => absurd e (by decide), fun e => absurd e (by decide), fun e => absurd e (by decide), fun e => absurd e (by decide), fun e => absurd e (by decide), fun e => absurd e (by decide), fun q _ _ _ _ _ _ _ _ => absurd rfl q⟩)))⟩
  · subst e
    have hg := h.2.1.1
    have hw : wb (LN tn tb).1 (LN tn tb).2.2.2.1 < 2048 := Nat.lt_of_lt_of_le (wb_lt _ _) (Nat.le_trans (Nat.pow_le_pow_right (by decide) hg) (by decide))
    have cg : Rt E MX3_gatesWatched [.ref 1] μ (some (.int (nI (ct (LN tn tb).2.2.2.1 (LN tn tb).1)))) μ := by
      refine Sp.go rfl rfl rfl (gX3_gatesWatched_0 ?_)
      rw [h.2.1.2.2.2.2.1]
      exact Rt.i (cJ_bitCount hw) ⟨by rw [ctb_wb hg], rfl⟩
    refine Rt.i cg ⟨_, rfl, Sp.go rfl rfl rfl (gX11_count_0 (md (x := 1) (fun r m hML hLM hf => ⟨fun e => absurd e (by decide), fun _ => ?_, fun e => absurd e (by decide), fun e => absurd e (by decide), fun e => absurd e (by decide), fun e => absurd e (by decide), fun e => absurd e (by decide), fun e => absurd e (by decide), fun e => absurd e (by decide), fun _ q _ _ _ _ _ _ _ => absurd rfl q⟩)))⟩
    have key : ∀ d k, k + d = (LN tn tb).1 → Ex E MX11_count (fun v' ξ => v' = some (.int (nI (ct (LN tn tb).2.2.2.1 (LN tn tb).1))) ∧ Fr SQ μ ξ) 67 [(0, .ref 123), (1, .int 1), (2, .int (nI (ct (LN tn tb).2.2.2.1 k))), (3, .int (nI k))] [] m := by
      intro d
      induction d with
      | zero =>
        intro k hk
        refine gX11_count_67 ?_
        rw [hML.2.2.2.1]
        simp (disch := omega) only [n_le]
        exact ⟨fun _ => ⟨by rw [show k = (LN tn tb).1 by omega], fq hf⟩, fun z => by omega⟩
      | succ d ih =>
        intro k hk
        have hm := (hML.2.2.2.2.2 k (by omega)).2.2.2.2
        refine gX11_count_67 ?_
        rw [hML.2.2.2.1]
        simp (disch := omega) only [n_le, n_in, nI_clamp, n_addc]
        rw [hm]
        refine ⟨fun z => by omega, fun _ => ⟨by omega, fun z v4 e4 v5 e5 => ?_, fun z v4 e4 v5 e5 => ?_⟩⟩
        · have := ih (k + 1) (by omega)
          rw [ct_s, if_neg (by intro q; rw [if_pos q] at z; exact absurd z (by decide))] at this
          rw [e4, e5]
          exact this
        · have := ih (k + 1) (by omega)
          rw [ct_s, if_pos (by apply Decidable.byContradiction; intro q; rw [if_neg q] at z; exact z rfl)] at this
          rw [e4, e5]
          exact this
    exact key (LN tn tb).1 0 (by omega)
  · subst e
    obtain ⟨h1, h2, h3, h4, h5⟩ := h.1 0 (by decide)
    have hv : vp_in ((2 : Int32) - 2) 4 := by rw [show (2 : Int32) - 2 = nI 0 by decide, n_in (by decide) (by decide)]; decide
    refine ⟨hv, Rt.i (cT_size (o := 115 + 2 * 0) (sTx0 0 (by decide))) ⟨_, rfl, Sp.go rfl rfl rfl (gX11_count_0 (md (x := 2) (fun r m hML hLM hf => ⟨fun e => absurd e (by decide), fun e => absurd e (by decide), fun _ => ⟨hv, ⟨?_, fq hf⟩⟩, fun e => absurd e (by decide), fun e => absurd e (by decide), fun e => absurd e (by decide), fun e => absurd e (by decide), fun e => absurd e (by decide), fun e => absurd e (by decide), fun _ _ q _ _ _ _ _ _ => absurd rfl q⟩)))⟩⟩
    show some (Value.int (m.1 129 0)) = _
    rw [(hf 129 0 (by unfold SM; omega)).1, h4.1, h3.1]
  · subst e
    obtain ⟨h1, h2, h3, h4, h5⟩ := h.1 1 (by decide)
    have hv : vp_in ((3 : Int32) - 2) 4 := by rw [show (3 : Int32) - 2 = nI 1 by decide, n_in (by decide) (by decide)]; decide
    refine ⟨hv, Rt.i (cT_size (o := 115 + 2 * 1) (sTx0 1 (by decide))) ⟨_, rfl, Sp.go rfl rfl rfl (gX11_count_0 (md (x := 3) (fun r m hML hLM hf => ⟨fun e => absurd e (by decide), fun e => absurd e (by decide), fun e => absurd e (by decide), fun _ => ⟨hv, ⟨?_, fq hf⟩⟩, fun e => absurd e (by decide), fun e => absurd e (by decide), fun e => absurd e (by decide), fun e => absurd e (by decide), fun e => absurd e (by decide), fun _ _ _ q _ _ _ _ _ => absurd rfl q⟩)))⟩⟩
    show some (Value.int (m.1 129 1)) = _
    rw [(hf 129 1 (by unfold SM; omega)).1, h4.1, h3.1]
  · subst e
    obtain ⟨h1, h2, h3, h4, h5⟩ := h.1 2 (by decide)
    have hv : vp_in ((4 : Int32) - 2) 4 := by rw [show (4 : Int32) - 2 = nI 2 by decide, n_in (by decide) (by decide)]; decide
    refine ⟨hv, Rt.i (cT_size (o := 115 + 2 * 2) (sTx0 2 (by decide))) ⟨_, rfl, Sp.go rfl rfl rfl (gX11_count_0 (md (x := 4) (fun r m hML hLM hf => ⟨fun e => absurd e (by decide), fun e => absurd e (by decide), fun e => absurd e (by decide), fun e => absurd e (by decide), fun _ => ⟨hv, ⟨?_, fq hf⟩⟩, fun e => absurd e (by decide), fun e => absurd e (by decide), fun e => absurd e (by decide), fun e => absurd e (by decide), fun _ _ _ _ q _ _ _ _ => absurd rfl q⟩)))⟩⟩
    show some (Value.int (m.1 129 2)) = _
    rw [(hf 129 2 (by unfold SM; omega)).1, h4.1, h3.1]
  · subst e
    obtain ⟨h1, h2, h3, h4, h5⟩ := h.1 3 (by decide)
    have hv : vp_in ((5 : Int32) - 2) 4 := by rw [show (5 : Int32) - 2 = nI 3 by decide, n_in (by decide) (by decide)]; decide
    refine ⟨hv, Rt.i (cT_size (o := 115 + 2 * 3) (sTx0 3 (by decide))) ⟨_, rfl, Sp.go rfl rfl rfl (gX11_count_0 (md (x := 5) (fun r m hML hLM hf => ⟨fun e => absurd e (by decide), fun e => absurd e (by decide), fun e => absurd e (by decide), fun e => absurd e (by decide), fun e => absurd e (by decide), fun _ => ⟨hv, ⟨?_, fq hf⟩⟩, fun e => absurd e (by decide), fun e => absurd e (by decide), fun e => absurd e (by decide), fun _ _ _ _ _ q _ _ _ => absurd rfl q⟩)))⟩⟩
    show some (Value.int (m.1 129 3)) = _
    rw [(hf 129 3 (by unfold SM; omega)).1, h4.1, h3.1]
  · subst e
    exact Rt.i (cI_size hC) ⟨_, rfl, Sp.go rfl rfl rfl (gX11_count_0 (md (x := 6) (fun r m hML hLM hf => ⟨fun e => absurd e (by decide), fun e => absurd e (by decide), fun e => absurd e (by decide), fun e => absurd e (by decide), fun e => absurd e (by decide), fun e => absurd e (by decide), fun _ => ⟨by rw [hLM.1], fq hf⟩, fun e => absurd e (by decide), fun e => absurd e (by decide), fun _ _ _ _ _ _ q _ _ => absurd rfl q⟩)))⟩
  · subst e
    refine Rt.i (cI_goodOnes hB hC) ⟨_, rfl, Sp.go rfl rfl rfl (gX11_count_0 (md (x := 7) (fun r m hML hLM hf => ⟨fun e => absurd e (by decide), fun e => absurd e (by decide), fun e => absurd e (by decide), fun e => absurd e (by decide), fun e => absurd e (by decide), fun e => absurd e (by decide), fun e => absurd e (by decide), fun _ => ?_, fun e => absurd e (by decide), fun _ _ _ _ _ _ _ q _ => absurd rfl q⟩)))⟩
    have key : ∀ d k, k + d = s.1 → Ex E MX11_count (fun v' ξ => v' = some (.int (nI (ct s.2.2 s.1))) ∧ Fr SQ μ ξ) 116 [(0, .ref 123), (1, .int 7), (2, .int (nI (ct s.2.2 k))), (3, .int (nI k))] [] m := by
      intro d
      induction d with
      | zero =>
        intro k hk
        refine gX11_count_116 ?_
        rw [hLM.1]
        simp (disch := omega) only [n_le]
        exact ⟨fun _ => ⟨by rw [show k = s.1 by omega], fq hf⟩, fun z => by omega⟩
      | succ d ih =>
        intro k hk
        have hm := (hLM.2 k (by omega)).2.1
        refine gX11_count_116 ?_
        rw [hLM.1]
        simp (disch := omega) only [n_le, n_in, nI_clamp, n_addc]
        rw [hm, b2_0]
        refine ⟨fun z => by omega, fun _ => ⟨by omega, fun z v4 e4 v5 e5 => ?_, fun z v4 e4 v5 e5 => ?_⟩⟩
        · have := ih (k + 1) (by omega)
          rw [ct_s, if_neg z] at this
          rw [e4, e5]
          exact this
        · have := ih (k + 1) (by omega)
          rw [ct_s, if_pos (Decidable.not_not.mp z)] at this
          rw [e4, e5]
          exact this
    exact key s.1 0 (by omega)
  · subst e
    have cf : Rt E MX7_latestFinding [.ref 107] μ (some (.int (μ.1 107 3))) μ := Sp.go rfl rfl rfl (gX7_latestFinding_0 ⟨rfl, rfl⟩)
    exact Rt.i cf ⟨_, rfl, Sp.go rfl rfl rfl (gX11_count_0 (md (x := 8) (fun r m hML hLM hf => ⟨fun e => absurd e (by decide), fun e => absurd e (by decide), fun e => absurd e (by decide), fun e => absurd e (by decide), fun e => absurd e (by decide), fun e => absurd e (by decide), fun e => absurd e (by decide), fun e => absurd e (by decide), fun _ => ⟨by rw [(hf 123 4 (by unfold SM; omega)).1, hS.1], fq hf⟩, fun _ _ _ _ _ _ _ _ q => absurd rfl q⟩)))⟩
  · rw [i_lt, e0] at z1
    rw [i_le, e8] at z2
    obtain ⟨n, hn, rfl⟩ := Rg.nat (x := x) (b := 8) ⟨by omega, by omega⟩
    rcases (show n = 0 ∨ n = 1 ∨ n = 2 ∨ n = 3 ∨ n = 4 ∨ n = 5 ∨ n = 6 ∨ n = 7 ∨ n = 8 by omega) with e | e | e | e | e | e | e | e | e
    · exact absurd (by rw [e]; decide) q0
    · exact absurd (by rw [e]; decide) q1
    · exact absurd (by rw [e]; decide) q2
    · exact absurd (by rw [e]; decide) q3
    · exact absurd (by rw [e]; decide) q4
    · exact absurd (by rw [e]; decide) q5
    · exact absurd (by rw [e]; decide) q6
    · exact absurd (by rw [e]; decide) q7
    · exact absurd (by rw [e]; decide) q8
end COUNT
