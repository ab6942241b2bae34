section SHEETS4
variable {E : EV} {μ : Mem}
theorem mCI_1 {a i b j n c k : Nat} : (mCI μ a i b j n).1 c k = if c = b ∧ (j ≤ k ∧ k < j + n) then μ.1 a (i + (k - j)) else μ.1 c k := rfl
theorem mCI_0 {a i b j : Nat} : mCI μ a i b j 0 = μ := by
  refine Prod.ext ?_ rfl
  funext c k
  rw [mCI_1, if_neg (by omega)]
theorem mCI_s {a i b j k : Nat} : mI (mCI μ a i b j k) b (j + k) (μ.1 a (i + k)) = mCI μ a i b j (k + 1) := by
  refine Prod.ext ?_ rfl
  funext c q
  rw [mI_1, mCI_1, mCI_1]
  by_cases e : c = b ∧ q = j + k
  · obtain ⟨rfl, rfl⟩ := e
    rw [if_pos ⟨rfl, rfl⟩, if_pos (by omega), Nat.add_sub_cancel_left]
  · rw [if_neg e]
    by_cases e2 : c = b ∧ (j ≤ q ∧ q < j + k)
    · rw [if_pos e2, if_pos (by omega)]
    · rw [if_neg e2, if_neg (by omega)]
theorem Fr.CI {S : Nat → Nat → Prop} {a i b j n : Nat} (h : ∀ k, j ≤ k → k < j + n → S b k) : Fr S μ (mCI μ a i b j n) := fun c k q => ⟨by rw [mCI_1, if_neg (fun z => q (by rw [z.1]; exact h k z.2.1 z.2.2))], rfl⟩
theorem cS_hasRun {s n : Nat} (hs : s < 4) (hn : μ.1 113 s = nI n) (h60 : n ≤ 60) (i k : Int32) : Rt E MX7_hasRun [.ref 107, .int (nI s), .int i, .int k] μ (some (.int (b2 (0 ≤ i.toInt ∧ 0 ≤ k.toInt ∧ i.toInt + k.toInt ≤ n)))) μ := by
  refine Sp.go rfl rfl rfl (gX7_hasRun_0 ?_)
  have z : (0 : Int32).toInt = 0 := by decide
  simp (disch := omega) only [n_in, nI_clamp, hn, i_lt, z, nI_toInt]
  refine ⟨fun c => ⟨by rw [b2_f (by omega)], trivial⟩, fun c => ⟨fun c2 => ⟨by rw [b2_f (by omega)], trivial⟩, fun c2 => ⟨by omega, fun c3 => ⟨by rw [b2_f (by omega)], trivial⟩, fun c3 => ?_⟩⟩⟩
  obtain ⟨j, hj, rfl⟩ := Rg.nat (x := i) (b := n) ⟨by omega, by omega⟩
  rw [pk_sub hj]
  simp (disch := omega) only [nI_toInt] at *
  refine ⟨fun c4 => ⟨by rw [b2_f (by omega)], trivial⟩, fun c4 => ⟨by rw [b2_t (by omega)], trivial⟩⟩
end SHEETS4
section SHEETS5
variable {E : EV} {μ : Mem}
theorem i64_add (x y : Int32) : (x.toInt64 + y.toInt64).toInt = x.toInt + y.toInt := by
  have h1 := x.toInt_lt
  have h2 := y.toInt_lt
  have h3 := x.le_toInt
  have h4 := y.le_toInt
  rw [Int64.toInt_add, Int32.toInt_toInt64, Int32.toInt_toInt64]
  apply Int.bmod_eq_of_le <;> omega
theorem cmp_le (x y : Int64) : (lg_cmp x y ≤ 0) = (x.toInt ≤ y.toInt) := by
  have h := cmp_gt x y
  rw [i_lt] at h
  rw [i_le]
  apply propext
  constructor
  · intro q
    have : ¬ (0 : Int32).toInt < (lg_cmp x y).toInt := by omega
    rw [h] at this
    omega
  · intro q
    have : ¬ y.toInt < x.toInt := by omega
    rw [← h] at this
    omega
theorem op_copy (h : RS μ) (x y z w u : Int32) : Op E MX10_copy MX11_copy [.int x, .int y, .int z, .int w, .int u] μ (fun ν => RS ν ∧ Fr SS μ ν) := by
  refine Sp.go rfl rfl rfl (gX10_copy_0 ?_)
  refine Rt.i (cX_isSheet x) ⟨fun c1 => ⟨-2, rfl, ?_⟩, fun c1 => Rt.i (cX_isSheet z) ⟨fun c2 => ?_, fun c2 => ⟨-2, rfl, ?_⟩⟩⟩
  · exact Sp.go rfl rfl rfl (gX11_copy_0 (Rt.i (cM_isSheet x) ⟨fun _ => ⟨rfl, h, Fr.rf⟩, fun c => absurd c1 c⟩))
  rotate_left
  · exact Sp.go rfl rfl rfl (gX11_copy_0 (Rt.i (cM_isSheet x) ⟨fun c => absurd c c1, fun _ => Rt.i (cM_isSheet z) ⟨fun c => absurd c2 c, fun _ => ⟨rfl, h, Fr.rf⟩⟩⟩))
  have c1' := c1
  have c2' := c2
  rw [b2_0, Decidable.not_not] at c1 c2
  obtain ⟨s, hs, rfl⟩ := Rg.nat (b := 3) c1
  obtain ⟨t, ht, rfl⟩ := Rg.nat (b := 3) c2
  -- the reference's part, for a finding
  have met : ∀ c : Int32, (∀ Q : Po, Q (some (.int (-10 - c))) (mI (mI μ 107 3 c) 123 4 c) → Ex E MX11_copy Q 0 [(0, .ref 123), (1, .int (nI s)), (2, .int y), (3, .int (nI t)), (4, .int w), (5, .int u)] [] (mI μ 107 3 c)) → Sp E MX7_find [.ref 107, .int c] μ (fun v m => ∃ r, v = some (.int r) ∧ ∃ r_1, some (Value.int r) = some (Value.int r_1) ∧ Sp E MX11_copy [.ref 123, .int (nI s), .int y, .int (nI t), .int w, .int u] m (fun v' ξ => v' = some (.int r_1) ∧ RS ξ ∧ Fr SS μ ξ)) := by
    intro c hq
    exact Rt.i (cS_find c) ⟨_, rfl, Sp.go rfl rfl rfl (hq _ ⟨rfl, RS_met h c⟩)⟩
  rcases h.2.sp (s := s) (by omega) with a | ⟨f, n, hf, hn, a1, a2, a3, a4, a5⟩
  · -- s is lost
    refine Sp.i (G := fun r m => r = 1 ∧ m = μ) (Sp.go rfl rfl rfl (gX7_findingOfCopy_0 (Rt.i (cS_isLost (by omega)) ⟨fun _ => ⟨1, rfl, rfl, rfl⟩, fun c => absurd a.1 (by rw [b2_0] at c; exact c)⟩))) ?_
    rintro r m ⟨rfl, rfl⟩
    refine ⟨fun c => absurd c (by decide), fun _ => met 1 (fun Q hQ => gX11_copy_0 (Rt.i (cM_isSheet _) ⟨fun c => absurd c c1', fun _ => Rt.i (cM_isSheet _) ⟨fun _ => ?_, fun c => absurd c c2'⟩⟩))⟩
    have e1 : (mI m 107 3 1).1 124 s = -1 := a.2
    simp (disch := omega) only [n_in, nI_clamp, e1]
    exact ⟨by omega, fun _ => Rt.i (cM_met 1) hQ, fun c => absurd (by decide) c⟩
  rcases h.2.sp (s := t) (by omega) with b | ⟨g, m, hg, hm, b1, b2', b3, b4, b5⟩
  · -- t is lost
    refine Sp.i (G := fun r m => r = 1 ∧ m = μ) (Sp.go rfl rfl rfl (gX7_findingOfCopy_0 (Rt.i (cS_isLost (by omega)) ⟨fun _ => ⟨1, rfl, rfl, rfl⟩, fun _ => Rt.i (cS_isLost (by omega)) ⟨fun c => absurd b.1 (by rw [b2_0] at c; exact c), fun _ => ⟨1, rfl, rfl, rfl⟩⟩⟩))) ?_
    rintro r m ⟨rfl, rfl⟩
    refine ⟨fun c => absurd c (by decide), fun _ => met 1 (fun Q hQ => gX11_copy_0 (Rt.i (cM_isSheet _) ⟨fun c => absurd c c1', fun _ => Rt.i (cM_isSheet _) ⟨fun _ => ?_, fun c => absurd c c2'⟩⟩))⟩
    have e1 : (mI m 107 3 1).1 124 s = nI f := a2
    have e2 : (mI m 107 3 1).1 124 t = -1 := b.2
    simp (disch := omega) only [n_in, nI_clamp, e1, e2, n_lt0]
    exact ⟨by omega, fun c => c.elim, fun _ => ⟨by omega, fun c => absurd c (by decide), fun _ => Rt.i (cM_met 1) hQ⟩⟩
  have nl1 : ¬ μ.1 114 s = -1 := by rw [a1]; simp (disch := omega) [n_eqm]
  have nl2 : ¬ μ.1 114 t = -1 := by rw [b1]; simp (disch := omega) [n_eqm]
  by_cases hfg : ¬ f = g
  · -- unlike forms
    refine Sp.i (G := fun r m => r = 4 ∧ m = μ) (Sp.go rfl rfl rfl (gX7_findingOfCopy_0 (Rt.i (cS_isLost (by omega)) ⟨fun c => absurd (b2_f nl1) c, fun _ => Rt.i (cS_isLost (by omega)) ⟨fun _ => ?_, fun c => absurd (b2_f nl2) c⟩⟩))) ?_
    · simp (disch := omega) only [n_in, nI_clamp, a1, b1, n_eq]
      exact ⟨by omega, by omega, fun c => absurd c hfg, fun _ => ⟨4, by simp⟩⟩
    rintro r m ⟨rfl, rfl⟩
    refine ⟨fun c => absurd c (by decide), fun _ => met 4 (fun Q hQ => gX11_copy_0 (Rt.i (cM_isSheet _) ⟨fun c => absurd c c1', fun _ => Rt.i (cM_isSheet _) ⟨fun _ => ?_, fun c => absurd c c2'⟩⟩))⟩
    have e1 : (mI m 107 3 4).1 124 s = nI f := a2
    have e2 : (mI m 107 3 4).1 124 t = nI g := b2'
    simp (disch := omega) only [n_in, nI_clamp, e1, e2, n_lt0, n_0le, n_eq]
    exact ⟨by omega, fun c => c.elim, fun _ => ⟨by omega, fun _ => ⟨fun c => absurd c hfg, fun _ => Rt.i (cM_met 4) hQ⟩, fun c => absurd trivial c⟩⟩
  rw [Decidable.not_not] at hfg
  subst hfg
  by_cases hr : ¬ ((0 ≤ y.toInt ∧ 0 ≤ u.toInt ∧ y.toInt + u.toInt ≤ n) ∧ (0 ≤ w.toInt ∧ 0 ≤ u.toInt ∧ w.toInt + u.toInt ≤ m))
  · -- no such stretch
    refine Sp.i (G := fun r m => r = 2 ∧ m = μ) (Sp.go rfl rfl rfl (gX7_findingOfCopy_0 (Rt.i (cS_isLost (by omega)) ⟨fun c => absurd (b2_f nl1) c, fun _ => Rt.i (cS_isLost (by omega)) ⟨fun _ => ?_, fun c => absurd (b2_f nl2) c⟩⟩))) ?_
    · simp (disch := omega) only [n_in, nI_clamp, a1, b1, n_eq]
      refine ⟨by omega, by omega, fun _ => Rt.i (cS_hasRun (by omega) a3 hn y u) ⟨fun _ => ⟨2, rfl, rfl, rfl⟩, fun c => Rt.i (cS_hasRun (by omega) b3 hm w u) ⟨fun _ => ⟨2, rfl, rfl, rfl⟩, fun c9 => ?_⟩⟩, fun c => absurd trivial c⟩
      rw [b2_0, Decidable.not_not] at c c9
      exact absurd ⟨c, c9⟩ hr
    rintro r m0 ⟨rfl, rfl⟩
    refine ⟨fun c => absurd c (by decide), fun _ => met 2 (fun Q hQ => gX11_copy_0 (Rt.i (cM_isSheet _) ⟨fun c => absurd c c1', fun _ => Rt.i (cM_isSheet _) ⟨fun _ => ?_, fun c => absurd c c2'⟩⟩))⟩
    have e1 : (mI m0 107 3 2).1 124 s = nI f := a2
    have e2 : (mI m0 107 3 2).1 124 t = nI f := b2'
    have e3 : (mI m0 107 3 2).1 125 s = nI n := a4
    have e4 : (mI m0 107 3 2).1 125 t = nI m := b4
    have zz : (0 : Int32).toInt = 0 := by decide
    simp (disch := omega) only [n_in, nI_clamp, e1, e2, e3, e4, n_lt0, n_0le, cmp_gt, cmp_le, i64_add, Int32.toInt_toInt64, nI_toInt]
    simp only [i_lt, zz]
    refine ⟨by omega, fun c => c.elim, fun _ => ⟨by omega, fun _ => ⟨fun _ => ⟨fun _ => Rt.i (cM_met 2) hQ, fun c5 => ⟨fun _ => Rt.i (cM_met 2) hQ, fun c6 => ⟨fun _ => Rt.i (cM_met 2) hQ, fun c7 => ⟨fun _ => Rt.i (cM_met 2) hQ, fun c8 => ⟨fun c9 => ?_, fun _ => Rt.i (cM_met 2) hQ⟩⟩⟩⟩⟩, fun c => absurd trivial c⟩, fun c => absurd trivial c⟩⟩
    omega
  -- it goes
  rw [Decidable.not_not] at hr
  obtain ⟨⟨r1, r2, r3⟩, r4, -, r5⟩ := hr
  obtain ⟨i, hi, rfl⟩ := Rg.nat (x := y) (b := n) ⟨by omega, by omega⟩
  obtain ⟨k, hk, rfl⟩ := Rg.nat (x := u) (b := n) ⟨by omega, by omega⟩
  obtain ⟨j, hj, rfl⟩ := Rg.nat (x := w) (b := m) ⟨by omega, by omega⟩
  simp (disch := omega) only [nI_toInt] at r1 r2 r3 r4 r5
  have run1 : ∀ ν : Mem, ν.1 113 s = nI n → Rt E MX7_hasRun [.ref 107, .int (nI s), .int (nI i), .int (nI k)] ν (some (.int 1)) ν := fun ν hν => by
    have := cS_hasRun (E := E) (show s < 4 by omega) hν hn (nI i) (nI k)
    rw [b2_t (by simp (disch := omega) only [nI_toInt]; omega)] at this
    exact this
  have run2 : ∀ ν : Mem, ν.1 113 t = nI m → Rt E MX7_hasRun [.ref 107, .int (nI t), .int (nI j), .int (nI k)] ν (some (.int 1)) ν := fun ν hν => by
    have := cS_hasRun (E := E) (show t < 4 by omega) hν hm (nI j) (nI k)
    rw [b2_t (by simp (disch := omega) only [nI_toInt]; omega)] at this
    exact this
  refine Sp.i (G := fun r m => r = 0 ∧ m = μ) (Sp.go rfl rfl rfl (gX7_findingOfCopy_0 (Rt.i (cS_isLost (by omega)) ⟨fun c => absurd (b2_f nl1) c, fun _ => Rt.i (cS_isLost (by omega)) ⟨fun _ => ?_, fun c => absurd (b2_f nl2) c⟩⟩))) ?_
  · simp (disch := omega) only [n_in, nI_clamp, a1, b1, n_eq]
    exact ⟨by omega, by omega, fun _ => Rt.i (run1 _ a3) ⟨fun c => absurd c (by decide), fun _ => Rt.i (run2 _ b3) ⟨fun c => absurd c (by decide), fun _ => ⟨0, rfl, rfl, rfl⟩⟩⟩, fun c => absurd trivial c⟩
  rintro r m0 ⟨rfl, rfl⟩
  refine ⟨fun _ => ?_, fun c => absurd rfl c⟩
  have mv : Rt E MX7_move [.ref 107, .int (nI s), .int (nI i), .int (nI t), .int (nI j), .int (nI k)] m0 none (mCI m0 (109 + s) i (109 + t) j k) := by
    refine Sp.go rfl rfl rfl (gX7_move_0 (Rt.i (run1 _ a3) ⟨fun c => absurd c (by decide), fun _ => Rt.i (run2 _ b3) ⟨fun c => absurd c (by decide), fun _ => ?_⟩⟩))
    simp (disch := omega) only [n_in, nI_clamp, n_lt0]
    exact ⟨by omega, by omega, ⟨fun c => c, fun c => c, fun c => c, by omega, by omega⟩, trivial, trivial⟩
  refine Rt.v mv ⟨1, rfl, ?_⟩
  generalize hν : mCI m0 (109 + s) i (109 + t) j k = ν
  have e1 : ν.1 124 s = nI f := by rw [← hν, mCI_1, if_neg (by omega)]; exact a2
  have e2 : ν.1 124 t = nI f := by rw [← hν, mCI_1, if_neg (by omega)]; exact b2'
  have e3 : ν.1 125 s = nI n := by rw [← hν, mCI_1, if_neg (by omega)]; exact a4
  have e4 : ν.1 125 t = nI m := by rw [← hν, mCI_1, if_neg (by omega)]; exact b4
  have zz : (0 : Int32).toInt = 0 := by decide
  refine Sp.go rfl rfl rfl (gX11_copy_0 (Rt.i (cM_isSheet _) ⟨fun c => absurd c c1', fun _ => Rt.i (cM_isSheet _) ⟨fun _ => ?_, fun c => absurd c c2'⟩⟩))
  simp (disch := omega) only [n_in, nI_clamp, e1, e2, e3, e4, n_lt0, n_0le, cmp_gt, cmp_le, i64_add, Int32.toInt_toInt64, nI_toInt]
  refine ⟨by omega, fun c => c.elim, fun _ => ⟨by omega, fun _ => ⟨fun _ => ⟨fun c => c.elim, fun _ => ⟨fun c => c.elim, fun _ => ⟨fun c => c.elim, fun _ => ⟨fun c => by omega, fun _ => ⟨fun _ => ?_, fun c => by omega⟩⟩⟩⟩⟩, fun c => absurd trivial c⟩, fun c => absurd trivial c⟩⟩
  refine lup (σ := Mem) (J := fun a ξ => Ex E MX11_copy _ 120 [(0, .ref 123), (1, .int (nI s)), (2, .int (nI i)), (3, .int (nI t)), (4, .int (nI j)), (5, .int (nI k)), (6, .int (nI a))] [] ξ) (I := fun a ξ => ξ = mCI ν 126 (60 * s + i) 127 0 a) k ?_ ?_ 0 ν (Nat.zero_le _) mCI_0.symm
  · intro a ξ ha hξ ih
    refine gX11_copy_120 ?_
    simp (disch := omega) only [n_le, n_in, nI_clamp, n_cmul, nI_add]
    refine ⟨fun q => by omega, fun _ => ⟨by omega, fun v3 e3' => ⟨by omega, fun v5 e5 => ?_⟩⟩⟩
    rw [e5, nI_1]
    refine ih _ ?_
    rw [e3', hξ, mCI_1, if_neg (by omega), ← mCI_s, Nat.zero_add]
  · intro ξ hξ
    refine gX11_copy_120 ?_
    simp (disch := omega) only [n_le, n_in, nI_clamp, n_cmul, nI_add]
    refine ⟨fun _ => ?_, fun q => absurd (Nat.le_refl k) q⟩
    refine lup (σ := Mem) (J := fun a ζ => Ex E MX11_copy _ 157 [(0, .ref 123), (1, .int (nI s)), (2, .int (nI i)), (3, .int (nI t)), (4, .int (nI j)), (5, .int (nI k)), (6, .int (nI a))] [] ζ) (I := fun a ζ => ζ = mCI ξ 127 0 126 (60 * t + j) a) k ?_ ?_ 0 ξ (Nat.zero_le _) mCI_0.symm
    · intro a ζ ha hζ ih
      refine gX11_copy_157 ?_
      simp (disch := omega) only [n_le, n_in, nI_clamp, n_cmul, nI_add]
      refine ⟨fun q => by omega, fun _ => ⟨by omega, fun v3 e3' => ⟨by omega, fun v5 e5 => ?_⟩⟩⟩
      rw [e5, nI_1]
      refine ih _ ?_
      rw [e3', hζ, mCI_1, if_neg (by omega), ← mCI_s, Nat.zero_add]
    · intro ζ hζ
      refine gX11_copy_157 ?_
      simp (disch := omega) only [n_le, n_in, nI_clamp, n_cmul, nI_add]
      refine ⟨fun _ => ⟨trivial, ?_⟩, fun q => absurd (Nat.le_refl k) q⟩
      subst hζ hξ hν
      constructor
      · refine ⟨?_, fun q hq => ?_⟩
        · have := h.1
          simp only [mCI_1]
          grind
        · by_cases e : q = t
          · subst e
            simp only [mCI_1]
            refine ⟨by grind, Or.inr ⟨?_, m, hm, by grind, by grind, fun a ha => ?_⟩⟩
            · have := (h.2 q hq).2
              grind
            · have w1 := b5 a ha
              by_cases w2 : j ≤ a ∧ a < j + k
              · have w3 := a5 (i + (a - j)) (by omega)
                have w4 : 60 * s + i + (0 + (60 * q + a - (60 * q + j)) - 0) = 60 * s + (i + (a - j)) := by omega
                grind
              · grind
          · refine h.keep hq ?_ ?_ ?_ ?_ (fun a ha => ?_) (fun a ha => ?_) <;> simp only [mCI_1] <;> grind
      · refine Fr.tr (Fr.tr (Fr.CI ?_) (Fr.CI ?_)) (Fr.CI ?_) <;> intro a _ _ <;> simp [SS] <;> omega
end SHEETS5
