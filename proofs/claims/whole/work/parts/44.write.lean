section WRITE
variable {E : EV} {μ ν : Mem} {tn : Nat → Nat} {tb : Nat → Nat → Nat} {S : Nat} {s : LZ}
theorem RC.frS {T : Nat → Nat → Prop} (h : RC μ tn tb S) (hf : Fr T μ ν) (h1 : ∀ o k, o = 1 ∨ o = 2 ∨ (115 ≤ o ∧ o ≤ 122) ∨ o = 128 ∨ o = 129 → ¬ T o k) (h2 : ¬ T 123 13) : RC ν tn tb S := by
  have hf' : Fr (fun o k => T o k ∨ SQ o k) μ ν := hf.up (fun _ _ => Or.inl)
  obtain ⟨g1, g2, g3, g4, g5, g6⟩ := h
  have e : ∀ o k, o = 1 ∨ o = 2 ∨ (115 ≤ o ∧ o ≤ 122) ∨ o = 128 ∨ o = 129 → ν.1 o k = μ.1 o k := fun o k ho => (hf o k (h1 o k ho)).1
  refine ⟨?_, g2.fr (e _ _ (by omega)) (e _ _ (by omega)) (e _ _ (by omega)) (fun k _ => e _ _ (by omega)), by rw [e _ _ (by omega), g3], g4, by rw [e _ _ (by omega), g5], ?_⟩
  · intro t ht
    obtain ⟨h1, h2, h3, h4, h5⟩ := g1 t ht
    refine ⟨h1, h2, ⟨?_, fun k hk => ?_⟩, ⟨?_, fun k hk => ?_⟩, ?_⟩
    · rw [e _ _ (by omega)]; exact h3.1
    · rw [e _ _ (by omega)]; exact h3.2 k hk
    · rw [e _ _ (by omega)]; exact h4.1
    · rw [e _ _ (by omega)]; exact h4.2 k hk
    · rw [e _ _ (by omega)]; exact h5
  · rw [(hf 123 13 h2).1]
    exact g6
theorem RLi.frS {T : Nat → Nat → Prop} (h : RLi μ s) (hf : Fr T μ ν) (h1 : ¬ T 78 4) (h2 : ∀ o k, 79 ≤ o → o ≤ 81 → ¬ T o k) (h3 : ¬ T 123 28) (h4 : ∀ o k, 142 ≤ o → o ≤ 144 → ¬ T o k) : RLi ν s := ⟨h.1, h.2.1.fr hf h1 h2, h.2.2.fr hf h3 h4⟩
def SWf (o k : Nat) : Prop := SS o k ∨ SQ o k
def SWr (sh n a k : Nat) : Prop := (a = 109 + sh ∧ k < n) ∨ (a = 126 ∧ 60 * sh ≤ k ∧ k < 60 * sh + n) ∨ SQ a k
theorem RS_run {sh n : Nat} (h : RS μ) (hs : sh < 4) (hn : n ≤ 60) (hf : Fr (SWr sh n) μ ν) (he : ∀ i, i < n → ν.1 (109 + sh) i = ν.1 126 (60 * sh + i)) : RS ν := by
  refine ⟨by rw [(hf 107 3 (by unfold SWr SQ; omega)).1, (hf 123 4 (by unfold SWr SQ; omega)).1]; exact h.1, fun i hi => ?_⟩
  obtain ⟨a, b⟩ := h.2 i hi
  rw [(hf 114 i (by unfold SWr SQ; omega)).1, (hf 124 i (by unfold SWr SQ; omega)).1]
  refine ⟨a, b.imp (fun q => q) (fun ⟨b1, n1, n2, n3, n4, n5⟩ => ⟨b1, n1, n2, ?_, ?_, fun j hj => ?_⟩)⟩
  · rw [(hf 113 i (by unfold SWr SQ; omega)).1]; exact n3
  · rw [(hf 125 i (by unfold SWr SQ; omega)).1]; exact n4
  · by_cases c : i = sh ∧ j < n
    · rw [c.1]
      exact he j c.2
    · rw [(hf (109 + i) j (by unfold SWr SQ; omega)).1, (hf 126 (60 * i + j) (by unfold SWr SQ; omega)).1]
      exact n5 j hj
theorem SWr_up {sh n o k : Nat} (hs : sh < 4) (h : SWr sh n o k) : SWf o k := by unfold SWr at h; unfold SWf SS; rcases h with h | h | h; exact Or.inl (by omega); exact Or.inl (by omega); exact Or.inr h
theorem op_write (h : RC μ tn tb S) (hS : RS μ) (x y : Int32) : Op E MX10_write MX11_write [.int x, .int y] μ (fun ν => RS ν ∧ Fr SWf μ ν) := by
  by_cases c1 : Rg x 1 3
  · by_cases c2 : Rg y 0 3
    · obtain ⟨t, ht, rfl⟩ := Rg.nat (x := x) (b := 3) ⟨by have := c1.1; omega, c1.2⟩
      obtain ⟨sh, hsh, rfl⟩ := Rg.nat (x := y) (b := 3) c2
      have c1' := c1
      rw [Rg.nI (by omega)] at c1'
      refine Sp.go rfl rfl rfl (gX10_write_0 (Rt.i (cX_isWay _) ⟨fun q => absurd c1 (by rw [b2_0] at q; exact q), fun _ => Rt.i (cX_isSheet _) ⟨fun _ => Rt.i (cS_isLost (by omega)) ⟨fun z => ?_, fun z => ?_⟩, fun q => absurd c2 (by rw [b2_0] at q; exact q)⟩⟩))
      · rw [b2_0] at z
        rcases hS.2.sp (s := sh) (by omega) with q | ⟨f, N, f2, N60, a1, a2, a3, a4, a5⟩
        · exact absurd q.1 z
        have hq := (h.pok (t := t) (by omega)).up h.2.1.1 (by omega)
        refine Sp.v (cX_stampWay h (Or.inl rfl) (by omega)) (fun m10 hm => ?_)
        obtain ⟨hP, hf⟩ := hm
        have s10 : m10.1 113 sh = nI N := by rw [(hf 113 sh (by omega)).1]; exact a3
        have f10 : m10.1 114 sh = nI f := by rw [(hf 114 sh (by omega)).1]; exact a1
        refine Rt.i (cP_size (by decide)) (Rt.i (cS_size (by omega)) ?_)
        have h10 : RC m10 tn tb S := h.fr (hf.up (fun a k q => by unfold SQ; omega))
        generalize hpp : PW (LN tn tb) tn tb t = p at hP hq
        have hp60 := hq.1
        rw [hP.1, s10]
        simp (disch := omega) only [n_lt]
        generalize hn : (if N < p.1 then N else p.1) = n
        have hn1 : n ≤ N ∧ n ≤ p.1 := by rw [← hn]; split <;> omega
        intro v15 e15
        have e15 : v15 = nI n := by rw [e15, ← hn]; split <;> rfl
        rw [e15]
        have model : ∀ m, RC m tn tb S → Fr (fun a k => (a = 4 ∨ a = 5) ∨ (a = 109 + sh ∧ k < n)) μ m → (∀ i, i < n → m.1 (109 + sh) i = cutI (nI f) (nI (byO (p.2 i)))) → Sp E MX11_write [.ref 123, .int (nI t), .int (nI sh)] m (fun v' ξ => v' = some (.int (nI n)) ∧ (RS ξ ∧ Fr SWf μ ξ)) := by
          intro m hm fm em
          refine Sp.go rfl rfl rfl (gX11_write_0 (Rt.i (cM_isWay _) ⟨fun q => absurd c1 (by rw [b2_0] at q; exact q), fun _ => Rt.i (cM_isSheet _) ⟨fun _ => ?_, fun q => absurd c2 (by rw [b2_0] at q; exact q)⟩⟩))
          simp (disch := omega) only [n_in, nI_clamp]
          rw [(fm 124 sh (by omega)).1, a2]
          simp (disch := omega) only [n_0le]
          refine ⟨by omega, fun _ => ?_, fun z => absurd trivial z⟩
          refine Sp.v (cM_findPaper (w := 0) (by decide) (by omega) hm) (fun m9 hm9 => ?_)
          rw [hpp] at hm9
          obtain ⟨hM, -, f9⟩ := hm9
          have f9' : Fr (SWr sh n) μ m9 := Fr.tr (fm.up (fun a k q => by unfold SWr SQ; omega)) (f9.up (fun a k q => Or.inr (Or.inr (SP_up q))))
          have e9 : ∀ i, i < n → m9.1 (109 + sh) i = cutI (nI f) (nI (byO (p.2 i))) := fun i hi => by rw [(f9 (109 + sh) i (by unfold SP SM Sst; omega)).1]; exact em i hi
          have s9 : m9.1 125 sh = nI N := by rw [(f9' 125 sh (by unfold SWr SQ; omega)).1]; exact a4
          have k9 : m9.1 124 sh = nI f := by rw [(f9' 124 sh (by unfold SWr SQ; omega)).1]; exact a2
          have key : ∀ d k m, k + d = n → Fr (fun a k => a = 126 ∧ 60 * sh ≤ k ∧ k < 60 * sh + n) m9 m → (∀ i, i < k → m.1 126 (60 * sh + i) = cutI (nI f) (nI (byO (p.2 i)))) → Ex E MX11_write (fun v' ξ => v' = some (.int (nI n)) ∧ (RS ξ ∧ Fr SWf μ ξ)) 72 [(0, .ref 123), (1, .int (nI t)), (2, .int (nI sh)), (3, .int (nI n)), (4, .int (nI k))] [] m := by
            intro d
            induction d with
            | zero =>
              intro k m hk hf hi
              refine gX11_write_72 ?_
              simp (disch := omega) only [n_le]
              have fT : Fr (SWr sh n) μ m := Fr.tr f9' (hf.up (fun a k q => Or.inr (Or.inl q)))
              refine ⟨fun _ => ⟨(by first | rfl | trivial), RS_run hS (by omega) (by omega) fT (fun i hi' => ?_), fT.up (fun a k q => SWr_up (by omega) q)⟩, fun z => by omega⟩
              rw [(hf (109 + sh) i (by omega)).1, e9 i hi', hi i (by omega)]
            | succ d ih =>
              intro k m hk hf hi
              refine gX11_write_72 ?_
              have hM' := hM.fr hp60 hf (by omega) (fun k _ _ => by omega)
              have e5 := hM'.2 k (by omega)
              have hl := hq.2 k (by omega)
              rw [show 60 * 0 + k = k by omega] at e5
              simp (disch := omega) only [n_le, n_in, nI_clamp, n_cmul, nI_add, n_addc]
              rw [e5, (hf 124 sh (by omega)).1, k9]
              refine ⟨fun z => by omega, fun _ => ⟨by omega, by omega, Rt.i (cM_byteOf (by omega)) (Rt.i (cM_cut _ _) ⟨by omega, fun v9 ev => ?_⟩)⟩⟩
              rw [ev]
              refine ih (k + 1) _ (by omega) (Fr.tr hf (Fr.I (by omega))) (fun i hi' => ?_)
              rw [mI_1]
              by_cases e : i = k
              · rw [if_pos ⟨rfl, by omega⟩, e]
              · rw [if_neg (by omega)]
                exact hi i (by omega)
          have go := key n 0 m9 (by omega) Fr.rf (fun i hi => by omega)
          rw [hM.1, s9]
          simp (disch := omega) only [n_le]
          refine ⟨fun z v11 e11 => ?_, fun z v12 e12 => ?_⟩
          · rw [e11, show p.1 = n by rw [← hn, if_neg (by omega)]]
            exact go
          · rw [e12, show N = n by rw [← hn, if_pos (by omega)]]
            exact go
        have key : ∀ d k m, k + d = n → Fr (fun a k => a = 109 + sh ∧ k < n) m10 m → (∀ i, i < k → m.1 (109 + sh) i = cutI (nI f) (nI (byO (p.2 i)))) → Ex E MX10_write (fun v ν => ∃ r : Int32, v = some (.int r) ∧ Sp E MX11_write [.ref 123, .int (nI t), .int (nI sh)] ν (fun v' ξ => v' = some (.int r) ∧ (RS ξ ∧ Fr SWf μ ξ))) 68 [(0, .ref 0), (1, .int (nI t)), (2, .int (nI sh)), (3, .int (nI n)), (4, .int (nI k))] [] m := by
          intro d
          induction d with
          | zero =>
            intro k m hk hf' hi
            refine gX10_write_68 ?_
            simp (disch := omega) only [n_le]
            exact ⟨fun _ => ⟨_, rfl, model m (h10.frS hf' (fun o k _ => by omega) (by omega)) (Fr.tr (hf.up (fun a k q => Or.inl (by omega))) (hf'.up (fun a k q => Or.inr q))) (fun i hi' => hi i (by omega))⟩, fun z => by omega⟩
          | succ d ih =>
            intro k m hk hf' hi
            refine gX10_write_68 ?_
            have hP' := hP.fr hf' (by omega) (fun k => by omega)
            have hl := hq.2 k (by omega)
            simp (disch := omega) only [n_le, n_addc]
            refine ⟨fun z => by omega, fun _ => Rt.i (cP_atP (by decide) hP' hp60 (by omega)) ?_⟩
            rw [if_pos (by omega)]
            refine Rt.i (cX_byteOf (by omega)) (Rt.v (cS_put (by omega) (by rw [(hf' 113 sh (by omega)).1]; exact s10) N60 (by omega) _) (fun v7 e7 => ?_))
            rw [e7, (hf' 114 sh (by omega)).1, f10]
            refine ih (k + 1) _ (by omega) (Fr.tr hf' (Fr.I (by omega))) (fun i hi' => ?_)
            rw [mI_1]
            by_cases e : i = k
            · rw [if_pos ⟨rfl, by omega⟩, e]
            · rw [if_neg (by omega)]
              exact hi i (by omega)
        exact key n 0 m10 (by omega) Fr.rf (fun i hi => by omega)
      · rw [b2_0, Decidable.not_not] at z
        refine Rt.i (cS_find 1) ⟨_, rfl, ?_⟩
        refine Sp.go rfl rfl rfl (gX11_write_0 (Rt.i (cM_isWay _) ⟨fun q => absurd c1 (by rw [b2_0] at q; exact q), fun _ => Rt.i (cM_isSheet _) ⟨fun _ => ?_, fun q => absurd c2 (by rw [b2_0] at q; exact q)⟩⟩))
        simp (disch := omega) only [n_in, nI_clamp]
        have e1 : (mI μ 107 3 1).1 124 sh = -1 := by
          have := (hS.2 sh (by omega)).1
          simp only [mI_1]
          grind
        rw [e1]
        exact ⟨by omega, fun c => absurd c (by decide), fun _ => Rt.i (cM_met 1) ⟨rfl, (RS_met hS 1).1, (RS_met hS 1).2.up (fun _ _ => Or.inl)⟩⟩
    · have md : Sp E MX11_write [.ref 123, .int x, .int y] μ (fun v' ξ => v' = some (.int (-2)) ∧ (RS ξ ∧ Fr SWf μ ξ)) :=
        Sp.go rfl rfl rfl (gX11_write_0 (Rt.i (cM_isWay _) ⟨fun _ => ⟨rfl, hS, Fr.rf⟩, fun _ => Rt.i (cM_isSheet _) ⟨fun q => absurd (b2_f c2) q, fun _ => ⟨rfl, hS, Fr.rf⟩⟩⟩))
      exact Sp.go rfl rfl rfl (gX10_write_0 (Rt.i (cX_isWay _) ⟨fun _ => ⟨_, rfl, md⟩, fun _ => Rt.i (cX_isSheet _) ⟨fun q => absurd (b2_f c2) q, fun _ => ⟨_, rfl, md⟩⟩⟩))
  · have md : Sp E MX11_write [.ref 123, .int x, .int y] μ (fun v' ξ => v' = some (.int (-2)) ∧ (RS ξ ∧ Fr SWf μ ξ)) :=
      Sp.go rfl rfl rfl (gX11_write_0 (Rt.i (cM_isWay _) ⟨fun _ => ⟨rfl, hS, Fr.rf⟩, fun q => absurd (b2_f c1) q⟩))
    exact Sp.go rfl rfl rfl (gX10_write_0 (Rt.i (cX_isWay _) ⟨fun _ => ⟨_, rfl, md⟩, fun q => absurd (b2_f c1) q⟩))
end WRITE
