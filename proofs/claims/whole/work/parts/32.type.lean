theorem offT_apart : ∀ s, s < 4 → ∀ t, t < 4 → s ≠ t → offT s + cap s ≤ offT t ∨ offT t + cap t ≤ offT s := by decide
section TYPE
variable {E : EV} {μ ν : Mem} {tn : Nat → Nat} {tb : Nat → Nat → Nat} {S : Nat}
def Bd (tn : Nat → Nat) (tb : Nat → Nat → Nat) : Prop := ∀ t, t < 4 → tn t ≤ cap t ∧ ∀ k, k < tn t → tb t k < 256
def RCt (μ : Mem) (tn : Nat → Nat) (tb : Nat → Nat → Nat) : Prop := ∀ t, t < 4 → TC μ t (tn t) (tb t) ∧ μ.1 (115 + 2 * t) 1 = nI (cap t)
def RCc (μ : Mem) (tn : Nat → Nat) (tb : Nat → Nat → Nat) : Prop := RCt μ tn tb ∧ CL μ (LN tn tb) ∧ μ.1 1 5 = oI (land (tn 0) (tb 0)).1
def ST (o k : Nat) : Prop := (o = 1 ∧ k ≠ 3) ∨ o = 2 ∨ (115 ≤ o ∧ o ≤ 122) ∨ o = 128 ∨ o = 129
theorem RCt.fr (h : RCt μ tn tb) (hf : Fr SL5 μ ν) : RCt ν tn tb := by
  intro t ht
  obtain ⟨h1, h2⟩ := h t ht
  refine ⟨⟨?_, fun k hk => ?_⟩, ?_⟩
  · rw [(hf _ _ (by unfold SL5; omega)).1]; exact h1.1
  · rw [(hf _ _ (by unfold SL5; omega)).1]; exact h1.2 k hk
  · rw [(hf _ _ (by unfold SL5; omega)).1]; exact h2
theorem cX_learnIf {t : Nat} (ht : t < 4) (hB : Bd tn tb) (hT : RCt μ tn tb) (hold : ¬ t = 0 → CL μ (LN tn tb) ∧ μ.1 1 5 = oI (land (tn 0) (tb 0)).1) :
    Sp E MX10_learnIfLand [.ref 0, .int (nI t)] μ (fun v m => v = none ∧ (RCc m tn tb ∧ Fr SL5 μ m)) := by
  refine Sp.go rfl rfl rfl (gX10_learnIfLand_0 ?_)
  simp (disch := omega) only [n_eq0]
  refine ⟨fun q => ⟨(by first | rfl | trivial), ⟨hT, hold q⟩, Fr.rf⟩, fun q => ?_⟩
  obtain ⟨b1, b2⟩ := hB 0 (by decide)
  refine Sp.v (cL_learn (hT 0 (by decide)).1 b2 b1) (fun m hm => ⟨(by first | rfl | trivial), ⟨hT.fr hm.2.2, hm.1, hm.2.1⟩, hm.2.2⟩)
theorem in255 (y : Int32) (ν : Mem) : Rt E MX11_in [.long (Int32.toInt64 y), .long 0, .long 255] ν (some (.int (b2 (Rg y 0 255)))) ν := by
  have := cM_inL (E := E) (μ := ν) y 0 255
  exact this
/-- all of it from the parts of both sides -/
theorem RC.mk' (hB : Bd tn tb) (hc : RCc μ tn tb) (hm : ∀ t, t < 4 → TM μ t (tn t) (tb t)) (hS : S < 512) (h1 : μ.1 1 3 = nI S) (h2 : μ.1 123 13 = nI S) : RC μ tn tb S :=
  ⟨fun t ht => ⟨(hB t ht).1, (hB t ht).2, (hc.1 t ht).1, hm t ht, (hc.1 t ht).2⟩, hc.2.1, hc.2.2, hS, h1, h2⟩
theorem op_type (h : RC μ tn tb S) (x y : Int32) : Op E MX10_type MX11_type [.int x, .int y] μ (fun ν => (∃ tn' tb', RC ν tn' tb' S) ∧ Fr ST μ ν) := by
  have ok0 : (∃ tn' tb', RC μ tn' tb' S) ∧ Fr ST μ μ := ⟨⟨tn, tb, h⟩, Fr.rf⟩
  refine Sp.go rfl rfl rfl (gX10_type_0 (Rt.i (cX_isText x) ⟨fun c1 => ⟨_, rfl, ?_⟩, fun c1 => ?_⟩))
  · exact Sp.go rfl rfl rfl (gX11_type_0 (Rt.i (cM_isText _) ⟨fun _ => ⟨rfl, ok0⟩, fun c => absurd c1 c⟩))
  have bad : ¬ Rg y 0 255 → Sp E MX11_type [.ref 123, .int x, .int y] μ (fun v' ξ => v' = some (.int (-2)) ∧ (∃ tn' tb', RC ξ tn' tb' S) ∧ Fr ST μ ξ) := by
    intro hy
    refine Sp.go rfl rfl rfl (gX11_type_0 (Rt.i (cM_isText _) ⟨fun c => absurd c c1, fun _ => Rt.i (in255 _ _) ⟨fun c => ?_, fun _ => ⟨rfl, ok0⟩⟩⟩))
    rw [b2_0, Decidable.not_not] at c
    exact absurd c hy
  have z : (0 : Int32).toInt = 0 ∧ (255 : Int32).toInt = 255 := by decide
  refine ⟨fun c2 => ⟨_, rfl, bad ?_⟩, fun c2 => ⟨fun c3 => ?_, fun c3 => ⟨_, rfl, bad ?_⟩⟩⟩
  · rw [i_lt, z.1] at c2; unfold Rg; omega
  rotate_left
  · rw [i_le, z.2] at c3; unfold Rg; omega
  rw [i_lt, z.1] at c2
  rw [i_le, z.2] at c3
  have hy : Rg y 0 255 := ⟨by omega, c3⟩
  obtain ⟨w, hw, rfl⟩ := Rg.nat (b := 255) hy
  have c1' := c1
  rw [b2_0, Decidable.not_not] at c1
  obtain ⟨t, ht, rfl⟩ := Rg.nat (b := 3) c1
  obtain ⟨h1, h2, h3, h4, h5⟩ := h.1 t (by omega)
  have hc := cap_le t
  have hk := sTx0 t (by omega)
  simp (disch := omega) only [n_in, nI_clamp]
  refine ⟨by omega, Rt.i (cT_isFull hk h3.1 h5 (by omega) (by omega)) ⟨fun q => ?_, fun q => ⟨_, rfl, ?_⟩⟩⟩
  rotate_left
  · -- full
    rw [b2_0, Decidable.not_not] at q
    have e : tn t = cap t := by omega
    refine Sp.go rfl rfl rfl (gX11_type_0 (Rt.i (cM_isText _) ⟨fun c => absurd c c1', fun _ => Rt.i (in255 _ _) ⟨fun _ => ?_, fun c => absurd hy (by rw [b2_0] at c; exact c)⟩⟩))
    simp (disch := omega) only [n_in, nI_clamp, n_eq0]
    rw [h4.1, e]
    unfold cap
    refine ⟨by omega, fun q0 => ⟨fun q1 => absurd (by rw [if_neg q0]; rfl) q1, fun _ => ⟨(by first | rfl | trivial), ok0⟩⟩, fun q0 => ⟨fun q1 => absurd (by rw [if_pos q0]; rfl) q1, fun _ => ⟨(by first | rfl | trivial), ok0⟩⟩⟩
  rw [b2_0] at q
  refine Rt.v (cT_append hk h3.1 h5 (by omega) (by omega)) ?_
  generalize hν : mI (mI μ (115 + 2 * t + 1) (tn t) (nI w)) (115 + 2 * t) 2 (nI (tn t + 1)) = ν
  have hB : Bd (up tn t (tn t + 1)) (up tb t (up (tb t) (tn t) w)) := by
    intro s hs
    obtain ⟨g1, g2, -⟩ := h.1 s hs
    unfold up
    by_cases e : s = t
    · subst e
      simp only [if_true]
      refine ⟨by omega, fun k hk => ?_⟩
      by_cases e2 : k = tn s
      · rw [if_pos e2]; omega
      · rw [if_neg e2]; exact g2 k (by omega)
    · simp only [if_neg e]
      exact ⟨g1, g2⟩
  have hT : RCt ν (up tn t (tn t + 1)) (up tb t (up (tb t) (tn t) w)) := by
    intro s hs
    obtain ⟨g1, g2, g3, g4, g5⟩ := h.1 s hs
    subst hν
    unfold up
    by_cases e : s = t
    · subst e
      simp only [if_true]
      refine ⟨⟨rde, fun k hk => ?_⟩, ?_⟩
      · rw [rd1 (by omega)]
        dsimp only
        by_cases e2 : k = tn s
        · rw [if_pos e2, e2, rde]
        · rw [if_neg e2, rd2 e2]; exact g3.2 k (by omega)
      · rw [rd2 (by omega), rd1 (by omega)]; exact g5
    · simp only [if_neg e]
      refine ⟨⟨?_, fun k hk => ?_⟩, ?_⟩
      · rw [rd1 (by omega), rd1 (by omega)]; exact g3.1
      · rw [rd1 (by omega), rd1 (by omega)]; exact g3.2 k hk
      · rw [rd1 (by omega), rd1 (by omega)]; exact g5
  have hold : ¬ t = 0 → CL ν (LN (up tn t (tn t + 1)) (up tb t (up (tb t) (tn t) w))) ∧ ν.1 1 5 = oI (land (up tn t (tn t + 1) 0) (up tb t (up (tb t) (tn t) w) 0)).1 := by
    intro q0
    have e1 : up tn t (tn t + 1) 0 = tn 0 := by simp [up, show ¬ 0 = t by omega]
    have e2 : up tb t (up (tb t) (tn t) w) 0 = tb 0 := by simp [up, show ¬ 0 = t by omega]
    unfold LN
    rw [e1, e2]
    subst hν
    refine ⟨h.2.1.fr ?_ ?_ ?_ (fun k _ => ?_), ?_⟩
    · rw [rd1 (by omega), rd1 (by omega)]
    · rw [rd1 (by omega), rd1 (by omega)]
    · rw [rd1 (by omega), rd1 (by omega)]
    · rw [rd1 (by omega), rd1 (by omega)]
    · rw [rd1 (by omega), rd1 (by omega)]; exact h.2.2.1
  have frν : Fr ST μ ν := by
    rw [← hν]
    exact Fr.tr (Fr.I (by unfold ST; omega)) (Fr.I (by unfold ST; omega))
  refine Sp.v (cX_learnIf (by omega) hB hT hold) (fun m hm => Rt.i (cT_size hk) ⟨_, rfl, ?_⟩)
  have frm : Fr ST μ m := Fr.tr frν (hm.2.up (fun o k q => by unfold SL5 at q; unfold ST; omega))
  have e9 : m.1 (115 + 2 * t) 2 = nI (tn t + 1) := by
    have := (hm.1.1 t (by omega)).1.1
    simpa [up] using this
  rw [e9]
  have em : ∀ o k, 123 ≤ o → m.1 o k = μ.1 o k := by
    intro o k ho
    rw [(hm.2 o k (by unfold SL5; omega)).1, ← hν, rd1 (by omega), rd1 (by omega)]
  have hof := offT_le (t := t) (k := tn t) (by omega) (by omega)
  have fin : (mI (mI m 128 (offT t + tn t) (nI w)) 129 t (nI (tn t + 1))).1 129 t = nI (tn t + 1) ∧ (∃ tn' tb', RC (mI (mI m 128 (offT t + tn t) (nI w)) 129 t (nI (tn t + 1))) tn' tb' S) ∧ Fr ST μ (mI (mI m 128 (offT t + tn t) (nI w)) 129 t (nI (tn t + 1))) := by
    refine ⟨rde, ⟨_, _, RC.mk' hB ?_ ?_ h.2.2.2.1 ?_ ?_⟩, Fr.tr (Fr.tr frm (Fr.I (by unfold ST; omega))) (Fr.I (by unfold ST; omega))⟩
    · refine ⟨fun s hs => ?_, hm.1.2.1.fr rfl rfl rfl (fun _ _ => rfl), hm.1.2.2⟩
      obtain ⟨g1, g2⟩ := hm.1.1 s hs
      refine ⟨⟨?_, fun k hk => ?_⟩, ?_⟩
      · rw [rd1 (by omega), rd1 (by omega)]; exact g1.1
      · rw [rd1 (by omega), rd1 (by omega)]; exact g1.2 k hk
      · rw [rd1 (by omega), rd1 (by omega)]; exact g2
    · intro s hs
      obtain ⟨-, -, -, g4, -⟩ := h.1 s hs
      unfold up
      by_cases e : s = t
      · subst e
        simp only [if_true]
        refine ⟨rde, fun k hk => ?_⟩
        rw [rd1 (by omega)]
        dsimp only
        by_cases e2 : k = tn s
        · rw [if_pos e2, e2, rde]
        · rw [if_neg e2, rd2 (by omega), em _ _ (by omega)]; exact g4.2 k (by omega)
      · simp only [if_neg e]
        refine ⟨?_, fun k hk => ?_⟩
        · rw [rd2 e, rd1 (by omega), em _ _ (by omega)]; exact g4.1
        · have g6 := offT_le hs (show k < cap s by have := (h.1 s hs).1; omega)
          have g7 : offT s + k ≠ offT t + tn t := by
            have := (h.1 s hs).1
            have := offT_apart s hs t (by omega) e
            omega
          rw [rd1 (by omega), rd2 g7, em _ _ (by omega)]; exact g4.2 k hk
    · rw [rd1 (by omega), rd1 (by omega), (frm 1 3 (by unfold ST; omega)).1]; exact h.2.2.2.2.1
    · rw [rd1 (by omega), rd1 (by omega), em _ _ (by omega)]; exact h.2.2.2.2.2
  refine Sp.go rfl rfl rfl (gX11_type_0 (Rt.i (cM_isText _) ⟨fun c => absurd c c1', fun _ => Rt.i (in255 _ _) ⟨fun _ => ?_, fun c => absurd hy (by rw [b2_0] at c; exact c)⟩⟩))
  have e10 : m.1 129 t = nI (tn t) := by rw [em _ _ (by omega)]; exact h4.1
  simp (disch := omega) only [n_in, nI_clamp, n_eq0, e10, n_eqc]
  unfold cap at q
  refine ⟨by omega, fun q0 => ⟨fun _ => Rt.i (cM_from (by omega)) ?_, fun q1 => by rw [if_neg q0] at q; omega⟩, fun q0 => ⟨fun _ => Rt.i (cM_from (by omega)) ?_, fun q1 => by rw [if_pos q0] at q; omega⟩⟩
  all_goals
    rw [e10]
    simp (disch := omega) only [nI_add, n_in, nI_clamp]
    refine ⟨by omega, fun v e => ?_⟩
    rw [rd1 (by omega), e10, nI_1] at e
    subst e
    rw [rde]
    exact ⟨(by first | rfl | trivial), fin.2⟩
end TYPE
