section SHEETS2
variable {E : EV} {μ : Mem}
theorem RSl.sp {s : Nat} (h : RSl μ) (hs : s < 4) : (μ.1 114 s = -1 ∧ μ.1 124 s = -1) ∨ (∃ f n : Nat, f ≤ 2 ∧ n ≤ 60 ∧ μ.1 114 s = nI f ∧ μ.1 124 s = nI f ∧ μ.1 113 s = nI n ∧ μ.1 125 s = nI n ∧ ∀ i, i < n → μ.1 (109 + s) i = μ.1 126 (60 * s + i)) := by
  obtain ⟨q1, q2⟩ := h s hs
  rcases q2 with q | ⟨q3, n, q4, q5, q6, q7⟩
  · exact Or.inl ⟨q, by rw [← q1]; exact q⟩
  · refine Or.inr ?_
    rcases q3 with q | q | q
    · exact ⟨0, n, by omega, q4, q, by rw [← q1]; exact q, q5, q6, q7⟩
    · exact ⟨1, n, by omega, q4, q, by rw [← q1]; exact q, q5, q6, q7⟩
    · exact ⟨2, n, by omega, q4, q, by rw [← q1]; exact q, q5, q6, q7⟩
theorem m1_lt0 : ((-1 : Int32) < 0) = True := by decide
theorem m1_0le : ((0 : Int32) ≤ -1) = False := by decide
theorem in2 (y : Int32) (ν : Mem) : Rt E MX11_in [.long (Int32.toInt64 y), .long 0, .long 2] ν (some (.int (b2 (Rg y 0 2)))) ν := by
  have := cM_in (E := E) (μ := ν) (Int32.toInt64 y) 0 2
  simp only [Int32.toInt_toInt64] at this
  exact this
theorem op_lose (h : RS μ) (x : Int32) : Op E MX10_lose MX11_lose [.int x] μ (fun ν => RS ν ∧ Fr SS μ ν) := by
  refine Sp.go rfl rfl rfl (gX10_lose_0 ?_)
  refine Rt.i (cX_isSheet x) ⟨fun c1 => ?_, fun c1 => ⟨-2, rfl, ?_⟩⟩
  · rw [b2_0, Decidable.not_not] at c1
    obtain ⟨s, hs, rfl⟩ := Rg.nat (b := 3) c1
    have c1' : ¬ b2 (Rg (nI s) 0 3) = 0 := by rw [b2_0, Decidable.not_not]; exact c1
    refine Rt.i (cS_isLost (by omega)) ⟨fun c2 => ?_, fun c2 => ?_⟩
    · rw [b2_0] at c2
      rcases h.2.sp (s := s) (by omega) with q | ⟨f, n, hf, hn, q1, q2, q3, q4, q5⟩
      · exact absurd q.1 c2
      refine Rt.i (cS_size (by omega)) (Rt.v (cS_drop (by omega)) ⟨_, rfl, ?_⟩)
      refine Sp.go rfl rfl rfl (gX11_lose_0 (Rt.i (cM_isSheet _) ⟨fun _ => ?_, fun c => absurd c c1'⟩))
      simp (disch := omega) only [n_in, nI_clamp]
      have e1 : (mI (mI μ 114 s (-1)) 113 s 0).1 124 s = nI f := by simpa [mI_1] using q2
      rw [e1]
      simp (disch := omega) only [n_0le]
      refine ⟨by omega, fun _ => ⟨?_, ?_, ?_⟩, fun c => absurd trivial c⟩
      · simp only [mI_1]
        grind
      · refine ⟨?_, fun q hq => ?_⟩
        · have := h.1
          simp only [mI_1]
          grind
        · by_cases e : q = s
          · subst e
            simp only [mI_1]
            grind
          · refine h.keep hq ?_ ?_ ?_ ?_ (fun i hi => ?_) (fun i hi => ?_) <;> simp only [mI_1] <;> grind
      · refine Fr.tr (Fr.tr (Fr.I ?_) (Fr.I ?_)) (Fr.I ?_) <;> simp [SS]
    · rw [b2_0, Decidable.not_not] at c2
      refine Rt.i (cS_find 1) ⟨_, rfl, ?_⟩
      refine Sp.go rfl rfl rfl (gX11_lose_0 (Rt.i (cM_isSheet _) ⟨fun _ => ?_, fun c => absurd c c1'⟩))
      simp (disch := omega) only [n_in, nI_clamp]
      have e1 : (mI μ 107 3 1).1 124 s = -1 := by
        have := (h.2 s (by omega)).1
        simp only [mI_1]
        grind
      rw [e1]
      refine ⟨by omega, fun c => absurd c (by decide), fun _ => Rt.i (cM_met 1) ⟨rfl, RS_met h 1⟩⟩
  · exact Sp.go rfl rfl rfl (gX11_lose_0 (Rt.i (cM_isSheet x) ⟨fun c => absurd c1 c, fun _ => ⟨rfl, h, Fr.rf⟩⟩))
/-- findingAt, lacks: one number -/
def lk (μ : Mem) (s : Nat) (f i : Int32) : Int32 := if μ.1 114 s = -1 then 1 else if ¬ μ.1 114 s = f then 3 else if i.toInt < 0 ∨ (μ.1 113 s).toInt ≤ i.toInt then 2 else 0
theorem cS_findingAt {s : Nat} (hs : s < 4) (f i : Int32) : Rt E MX7_findingAt [.ref 107, .int (nI s), .int f, .int i] μ (some (.int (lk μ s f i))) μ := by
  refine Sp.go rfl rfl rfl (gX7_findingAt_0 (Rt.i (cS_isLost hs) ?_))
  simp (disch := omega) only [n_in, nI_clamp, b2_0, i_lt, iL, lk]
  grind
theorem cM_lacks (h : RSl μ) {s : Nat} (hs : s < 4) (f i : Int32) : Rt E MX11_lacks [.ref 123, .int (nI s), .int f, .int i] (μ) (some (.int (if lk μ s f i = 0 then 0 else -10 - lk μ s f i))) (if lk μ s f i = 0 then μ else mI μ 123 4 (lk μ s f i)) := by
  refine Sp.go rfl rfl rfl (gX11_lacks_0 ?_)
  simp (disch := omega) only [n_in, nI_clamp]
  refine ⟨hs, fun c1 => ⟨fun c2 => Rt.i (cM_in _ _ _) ⟨fun c3 => ?_, fun c3 => ?_⟩, fun c2 => ?_⟩, fun c1 => ?_⟩
  · rcases h.sp (s := s) (by omega) with q | ⟨g, n, hg, hn, q1, q2, q3, q4, q5⟩
    · rw [q.2] at c1; exact absurd c1 (by decide)
    have e : lk μ s f i = 2 := by
      rw [b2_0] at c3
      simp only [Int32.toInt_toInt64] at c3
      have e0 : (nI n - 1).toInt = (n : Int) - 1 := by
        have := pk_sub_toInt (a := n) (b := 1) (by omega) (by omega)
        exact this
      rw [q4, e0] at c3
      unfold lk
      rw [if_neg (by rw [q1]; simp (disch := omega) [n_eqm]), if_neg (by rw [q1, ← q2]; simpa using c2), if_pos ?_]
      rw [q3, nI_toInt (by omega)]
      have : (0 : Int64).toInt = 0 := by decide
      omega
    rw [e]
    exact Rt.i (cM_met 2) ⟨rfl, rfl⟩
  · rcases h.sp (s := s) (by omega) with q | ⟨g, n, hg, hn, q1, q2, q3, q4, q5⟩
    · rw [q.2] at c1; exact absurd c1 (by decide)
    have e : lk μ s f i = 0 := by
      rw [b2_0, Decidable.not_not] at c3
      simp only [Int32.toInt_toInt64] at c3
      have e0 : (nI n - 1).toInt = (n : Int) - 1 := by
        have := pk_sub_toInt (a := n) (b := 1) (by omega) (by omega)
        exact this
      rw [q4, e0] at c3
      unfold lk
      rw [if_neg (by rw [q1]; simp (disch := omega) [n_eqm]), if_neg (by rw [q1, ← q2]; simpa using c2), if_neg ?_]
      rw [q3, nI_toInt (by omega)]
      have : (0 : Int64).toInt = 0 := by decide
      omega
    simp [e]
  · rcases h.sp (s := s) (by omega) with q | ⟨g, n, hg, hn, q1, q2, q3, q4, q5⟩
    · rw [q.2] at c1; exact absurd c1 (by decide)
    have e : lk μ s f i = 3 := by
      unfold lk
      rw [if_neg (by rw [q1]; simp (disch := omega) [n_eqm]), if_pos (by rw [q1, ← q2]; exact c2)]
    rw [e]
    exact Rt.i (cM_met 3) ⟨rfl, rfl⟩
  · rcases h.sp (s := s) (by omega) with q | ⟨g, n, hg, hn, q1, q2, q3, q4, q5⟩
    · have e : lk μ s f i = 1 := by
        unfold lk
        rw [if_pos q.1]
      rw [e]
      exact Rt.i (cM_met 1) ⟨rfl, rfl⟩
    · rw [q2] at c1
      exact absurd (by simp (disch := omega) [n_0le]) c1
end SHEETS2
