section SHEETS3
variable {E : EV} {μ : Mem}
theorem lk0 (h : RSl μ) {s : Nat} (hs : s < 4) {f i : Int32} (hk : lk μ s f i = 0) : ∃ g n j : Nat, g ≤ 2 ∧ n ≤ 60 ∧ j < n ∧ f = nI g ∧ i = nI j ∧ μ.1 114 s = nI g ∧ μ.1 124 s = nI g ∧ μ.1 113 s = nI n ∧ μ.1 125 s = nI n ∧ ∀ i, i < n → μ.1 (109 + s) i = μ.1 126 (60 * s + i) := by
  unfold lk at hk
  rcases h.sp hs with q | ⟨g, n, hg, hn, q1, q2, q3, q4, q5⟩
  · rw [if_pos q.1] at hk; exact absurd hk (by decide)
  rw [if_neg (by rw [q1]; simp (disch := omega) [n_eqm])] at hk
  by_cases e : μ.1 114 s = f
  · rw [if_neg (by simpa using e)] at hk
    by_cases e2 : i.toInt < 0 ∨ (μ.1 113 s).toInt ≤ i.toInt
    · rw [if_pos e2] at hk; exact absurd hk (by decide)
    · rw [q3, nI_toInt (by omega)] at e2
      obtain ⟨j, hj, rfl⟩ := Rg.nat (x := i) (b := n) ⟨by omega, by omega⟩
      rw [nI_toInt (by omega)] at e2
      exact ⟨g, n, j, hg, hn, by omega, by rw [← e, q1], rfl, q1, q2, q3, q4, q5⟩
  · rw [if_pos e] at hk; exact absurd hk (by decide)
theorem cS_put {s n i : Nat} (hs : s < 4) (hn : μ.1 113 s = nI n) (h60 : n ≤ 60) (hi : i < n) (v : Int32) : Rt E MX7_put [.ref 107, .int (nI s), .int (nI i), .int v] μ none (mI μ (109 + s) i (cutI (μ.1 114 s) v)) := by
  refine Sp.go rfl rfl rfl (gX7_put_0 ?_)
  simp (disch := omega) only [n_in, nI_clamp, n_lt0, hn, n_lt, cutI]
  grind
theorem cS_item {s n i : Nat} (hs : s < 4) (hn : μ.1 113 s = nI n) (h60 : n ≤ 60) (hi : i < n) : Rt E MX7_item [.ref 107, .int (nI s), .int (nI i)] μ (some (.int (μ.1 (109 + s) i))) μ := by
  refine Sp.go rfl rfl rfl (gX7_item_0 ?_)
  simp (disch := omega) only [n_in, nI_clamp, n_lt0, hn, n_le]
  grind
/-- one item of both becomes the same -/
theorem RS_put (h : RS μ) {s n i : Nat} {v : Int32} (hs : s < 4) (hn : μ.1 113 s = nI n) (h60 : n ≤ 60) (hi : i < n) : RS (mI (mI μ (109 + s) i v) 126 (60 * s + i) v) ∧ Fr SS μ (mI (mI μ (109 + s) i v) 126 (60 * s + i) v) := by
  refine ⟨⟨?_, fun q hq => ?_⟩, ?_⟩
  · have := h.1
    simp only [mI_1]
    grind
  · by_cases e : q = s
    · subst e
      obtain ⟨q1, q2⟩ := h.2 q hq
      simp only [mI_1]
      refine ⟨by grind, ?_⟩
      rcases q2 with q2 | ⟨q3, m, q4, q5, q6, q7⟩
      · left; grind
      · right
        refine ⟨by grind, m, q4, by grind, by grind, fun j hj => ?_⟩
        have := q7 j hj
        grind
    · refine h.keep hq ?_ ?_ ?_ ?_ (fun j hj => ?_) (fun j hj => ?_) <;> simp only [mI_1] <;> grind
  · refine Fr.tr (Fr.I ?_) (Fr.I ?_) <;> simp [SS] <;> omega
theorem lk_find {s : Nat} {f i c : Int32} : lk (mI μ 107 3 c) s f i = lk μ s f i := rfl
theorem RSl_find {c : Int32} (h : RSl μ) : RSl (mI μ 107 3 c) := by
  intro s hs
  have := h s hs
  simp only [mI_1]
  grind
theorem lk_rg (s : Nat) (f i : Int32) : lk μ s f i = 0 ∨ lk μ s f i = 1 ∨ lk μ s f i = 2 ∨ lk μ s f i = 3 := by
  unfold lk
  grind
theorem lk_ne {s : Nat} {f i : Int32} (h : ¬ lk μ s f i = 0) : ¬ (-10 - lk μ s f i) = 0 := by
  rcases lk_rg (μ := μ) s f i with q | q | q | q
  · exact absurd q h
  all_goals rw [q]; decide
theorem op_lay (h : RS μ) (x y z w : Int32) : Op E MX10_lay MX11_lay [.int x, .int y, .int z, .int w] μ (fun ν => RS ν ∧ Fr SS μ ν) := by
  refine Sp.go rfl rfl rfl (gX10_lay_0 ?_)
  refine Rt.i (cX_isSheet x) ⟨fun c1 => ⟨-2, rfl, ?_⟩, fun c1 => Rt.i (cX_isForm y) ⟨fun c2 => ?_, fun c2 => ⟨-2, rfl, ?_⟩⟩⟩
  · exact Sp.go rfl rfl rfl (gX11_lay_0 (Rt.i (cM_isSheet x) ⟨fun _ => ⟨rfl, h, Fr.rf⟩, fun c => absurd c1 c⟩))
  · have c1' := c1
    rw [b2_0, Decidable.not_not] at c1
    obtain ⟨s, hs, rfl⟩ := Rg.nat (b := 3) c1
    refine Rt.i (cS_findingAt (by omega) y z) ⟨fun c3 => ?_, fun c3 => ?_⟩
    · obtain ⟨g, n, j, hg, hn, hj, rfl, rfl, q1, q2, q3, q4, q5⟩ := lk0 h.2 (by omega) c3
      refine Rt.v (cS_put (by omega) q3 hn hj w) ⟨1, rfl, ?_⟩
      have hl : RSl (mI μ (109 + s) j (cutI (μ.1 114 s) w)) → True := fun _ => trivial
      refine Sp.go rfl rfl rfl (gX11_lay_0 (Rt.i (cM_isSheet _) ⟨fun c => absurd c c1', fun _ => Rt.i (in2 _ _) ⟨fun _ => ?_, fun c => absurd c c2⟩⟩))
      refine Sp.i (G := fun r m => r = 0 ∧ m = mI μ (109 + s) j (cutI (μ.1 114 s) w)) ?_ ?_
      · refine Sp.go rfl rfl rfl (gX11_lacks_0 ?_)
        have e1 : (mI μ (109 + s) j (cutI (μ.1 114 s) w)).1 124 s = nI g := by simp only [mI_1]; grind
        have e2 : (mI μ (109 + s) j (cutI (μ.1 114 s) w)).1 125 s = nI n := by simp only [mI_1]; grind
        simp (disch := omega) only [n_in, nI_clamp, e1, e2, n_0le]
        refine ⟨by omega, fun _ => ⟨fun _ => Rt.i (cM_in _ _ _) ⟨fun c => ?_, fun _ => ⟨0, rfl, rfl, rfl⟩⟩, fun c => absurd trivial c⟩, fun c => absurd trivial c⟩
        rw [b2_0] at c
        refine absurd ?_ c
        have e0 : (nI n - 1).toInt = (n : Int) - 1 := pk_sub_toInt (a := n) (b := 1) (by omega) (by omega)
        have e3 : (0 : Int64).toInt = 0 := by decide
        simp only [Int32.toInt_toInt64, e0, e3, nI_toInt (show j < 2 ^ 31 by omega)]
        omega
      · rintro r m ⟨rfl, rfl⟩
        refine ⟨fun _ => Rt.i (cM_cut _ _) ?_, fun c => absurd rfl c⟩
        simp (disch := omega) only [n_cmul, nI_add, n_in, nI_clamp]
        refine ⟨by omega, trivial, ?_⟩
        rw [q1]
        exact RS_put h (by omega) q3 hn hj
    · refine Rt.i (cS_find _) ⟨_, rfl, ?_⟩
      have c3' := c3
      refine Sp.go rfl rfl rfl (gX11_lay_0 (Rt.i (cM_isSheet _) ⟨fun c => absurd c c1', fun _ => Rt.i (in2 _ _) ⟨fun _ => ?_, fun c => absurd c c2⟩⟩))
      have hl := cM_lacks (E := E) (RSl_find (c := lk μ s y z) h.2) (show s < 4 by omega) y z
      rw [lk_find, if_neg c3, if_neg c3] at hl
      refine Rt.i hl ⟨fun c => absurd c (lk_ne c3), fun _ => ⟨rfl, RS_met h _⟩⟩
  · exact Sp.go rfl rfl rfl (gX11_lay_0 (Rt.i (cM_isSheet x) ⟨fun c => absurd c c1, fun _ => Rt.i (in2 _ _) ⟨fun c => absurd c2 c, fun _ => ⟨rfl, h, Fr.rf⟩⟩⟩))
theorem op_get (h : RS μ) (x y z : Int32) : Op E MX10_get MX11_get [.int x, .int y, .int z] μ (fun ν => RS ν ∧ Fr SS μ ν) := by
  refine Sp.go rfl rfl rfl (gX10_get_0 ?_)
  refine Rt.i (cX_isSheet x) ⟨fun c1 => ⟨_, rfl, ?_⟩, fun c1 => Rt.i (cX_isForm y) ⟨fun c2 => ?_, fun c2 => ⟨_, rfl, ?_⟩⟩⟩
  · exact Sp.go rfl rfl rfl (gX11_get_0 (Rt.i (cM_isSheet x) ⟨fun _ => ⟨rfl, h, Fr.rf⟩, fun c => absurd c1 c⟩))
  · have c1' := c1
    rw [b2_0, Decidable.not_not] at c1
    obtain ⟨s, hs, rfl⟩ := Rg.nat (b := 3) c1
    refine Rt.i (cS_findingAt (by omega) y z) ⟨fun c3 => ?_, fun c3 => ?_⟩
    · have hl := cM_lacks (E := E) h.2 (show s < 4 by omega) y z
      rw [if_pos c3, if_pos c3] at hl
      obtain ⟨g, n, j, hg, hn, hj, rfl, rfl, q1, q2, q3, q4, q5⟩ := lk0 h.2 (by omega) c3
      refine Rt.i (cS_item (by omega) q3 hn hj) ⟨_, rfl, ?_⟩
      refine Sp.go rfl rfl rfl (gX11_get_0 (Rt.i (cM_isSheet _) ⟨fun c => absurd c c1', fun _ => Rt.i (in2 _ _) ⟨fun c => absurd c c2, fun _ => Rt.i hl ⟨fun _ => ?_, fun c => absurd rfl c⟩⟩⟩))
      simp (disch := omega) only [n_cmul, nI_add, n_in, nI_clamp]
      exact ⟨by omega, by rw [q5 j hj], h, Fr.rf⟩
    · refine Rt.i (cS_find _) ⟨_, rfl, ?_⟩
      have hl := cM_lacks (E := E) (RSl_find (c := lk μ s y z) h.2) (show s < 4 by omega) y z
      rw [lk_find, if_neg c3, if_neg c3] at hl
      refine Sp.go rfl rfl rfl (gX11_get_0 (Rt.i (cM_isSheet _) ⟨fun c => absurd c c1', fun _ => Rt.i (in2 _ _) ⟨fun c => absurd c c2, fun _ => Rt.i hl ⟨fun c => absurd c (lk_ne c3), fun _ => ⟨rfl, RS_met h _⟩⟩⟩⟩))
  · exact Sp.go rfl rfl rfl (gX11_get_0 (Rt.i (cM_isSheet x) ⟨fun c => absurd c c1, fun _ => Rt.i (in2 _ _) ⟨fun _ => ⟨rfl, h, Fr.rf⟩, fun c => absurd c2 c⟩⟩))
end SHEETS3
