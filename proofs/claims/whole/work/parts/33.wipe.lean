section WIPE
variable {E : EV} {μ ν : Mem} {tn : Nat → Nat} {tb : Nat → Nat → Nat} {S : Nat}
theorem op_wipe (h : RC μ tn tb S) (x : Int32) : Op E MX10_wipe MX11_wipe [.int x] μ (fun ν => (∃ tn' tb', RC ν tn' tb' S) ∧ Fr ST μ ν) := by
  have ok0 : (∃ tn' tb', RC μ tn' tb' S) ∧ Fr ST μ μ := ⟨⟨tn, tb, h⟩, Fr.rf⟩
  refine Sp.go rfl rfl rfl (gX10_wipe_0 (Rt.i (cX_isText x) ⟨fun c1 => ?_, fun c1 => ⟨_, rfl, ?_⟩⟩))
  rotate_left
  · exact Sp.go rfl rfl rfl (gX11_wipe_0 (Rt.i (cM_isText _) ⟨fun c => absurd c1 c, fun _ => ⟨rfl, ok0⟩⟩))
  have c1' := c1
  rw [b2_0, Decidable.not_not] at c1
  obtain ⟨t, ht, rfl⟩ := Rg.nat (b := 3) c1
  obtain ⟨h1, h2, h3, h4, h5⟩ := h.1 t (by omega)
  have hc := cap_le t
  have hk := sTx0 t (by omega)
  simp (disch := omega) only [n_in, nI_clamp]
  refine ⟨by omega, Rt.i (cT_size hk) (Rt.v (cT_empty hk) ?_)⟩
  rw [h3.1]
  generalize hν : mI μ (115 + 2 * t) 2 0 = ν
  have hB : Bd (up tn t 0) tb := by
    intro s hs
    obtain ⟨g1, g2, -⟩ := h.1 s hs
    unfold up
    by_cases e : s = t
    · rw [if_pos e]
      exact ⟨Nat.zero_le _, fun k hk => absurd hk (Nat.not_lt_zero k)⟩
    · rw [if_neg e]
      exact ⟨g1, g2⟩
  have hT : RCt ν (up tn t 0) tb := by
    intro s hs
    obtain ⟨g1, g2, g3, g4, g5⟩ := h.1 s hs
    subst hν
    unfold up
    by_cases e : s = t
    · subst e
      rw [if_pos rfl]
      refine ⟨⟨rde, fun k hk => absurd hk (Nat.not_lt_zero k)⟩, ?_⟩
      rw [rd2 (by omega)]; exact g5
    · rw [if_neg e]
      refine ⟨⟨?_, fun k hk => ?_⟩, ?_⟩
      · rw [rd1 (by omega)]; exact g3.1
      · rw [rd1 (by omega)]; exact g3.2 k hk
      · rw [rd1 (by omega)]; exact g5
  have hold : ¬ t = 0 → CL ν (LN (up tn t 0) tb) ∧ ν.1 1 5 = oI (land (up tn t 0 0) (tb 0)).1 := by
    intro q0
    have e1 : up tn t 0 0 = tn 0 := by simp [up, show ¬ 0 = t by omega]
    unfold LN
    rw [e1]
    subst hν
    refine ⟨h.2.1.fr ?_ ?_ ?_ (fun k _ => ?_), ?_⟩
    · rw [rd1 (by omega)]
    · rw [rd1 (by omega)]
    · rw [rd1 (by omega)]
    · rw [rd1 (by omega)]
    · rw [rd1 (by omega)]; exact h.2.2.1
  have frν : Fr ST μ ν := by
    rw [← hν]
    exact Fr.I (by unfold ST; omega)
  refine Sp.v (cX_learnIf (by omega) hB hT hold) (fun m hm => ⟨_, rfl, ?_⟩)
  have frm : Fr ST μ m := Fr.tr frν (hm.2.up (fun o k q => by unfold SL5 at q; unfold ST; omega))
  have em : ∀ o k, 123 ≤ o → m.1 o k = μ.1 o k := by
    intro o k ho
    rw [(hm.2 o k (by unfold SL5; omega)).1, ← hν, rd1 (by omega)]
  refine Sp.go rfl rfl rfl (gX11_wipe_0 (Rt.i (cM_isText _) ⟨fun _ => ?_, fun c => absurd c c1'⟩))
  simp (disch := omega) only [n_in, nI_clamp]
  refine ⟨by omega, fun v5 e5 => ⟨?_, ⟨_, _, RC.mk' hB ?_ ?_ h.2.2.2.1 ?_ ?_⟩, Fr.tr frm (Fr.I (by unfold ST; omega))⟩⟩
  · rw [e5, em _ _ (by omega), h4.1]
  · refine ⟨fun s hs => ?_, hm.1.2.1.fr rfl rfl rfl (fun _ _ => rfl), hm.1.2.2⟩
    obtain ⟨g1, g2⟩ := hm.1.1 s hs
    refine ⟨⟨?_, fun k hk => ?_⟩, ?_⟩
    · rw [rd1 (by omega)]; exact g1.1
    · rw [rd1 (by omega)]; exact g1.2 k hk
    · rw [rd1 (by omega)]; exact g2
  · intro s hs
    obtain ⟨-, -, -, g4, -⟩ := h.1 s hs
    unfold up
    by_cases e : s = t
    · subst e
      rw [if_pos rfl]
      exact ⟨rde, fun k hk => absurd hk (Nat.not_lt_zero k)⟩
    · rw [if_neg e]
      refine ⟨?_, fun k hk => ?_⟩
      · rw [rd2 e, em _ _ (by omega)]; exact g4.1
      · rw [rd1 (by omega), em _ _ (by omega)]; exact g4.2 k hk
  · rw [rd1 (by omega), (frm 1 3 (by unfold ST; omega)).1]; exact h.2.2.2.2.1
  · rw [rd1 (by omega), em _ _ (by omega)]; exact h.2.2.2.2.2
end WIPE
