section SLIPS
variable {E : EV} {μ ν : Mem} {tn : Nat → Nat} {tb : Nat → Nat → Nat} {S : Nat} {q : PA} {s : LZ}
def S145 (o _k : Nat) : Prop := o = 145
theorem S145_SQ {o k : Nat} (h : S145 o k) : SQ o k := by unfold S145 at h; unfold SQ; omega
theorem LM.f145 (h : LM μ s) (hf : Fr S145 μ ν) : LM ν s := h.fr hf (by unfold S145; omega) (fun o k _ _ => by unfold S145; omega)
theorem cM_slipsOf {P : Nat} (hP2 : P < 2048) (hB : LB s) (hM : LM μ s) : Sp E MX11_slipsOf [.ref 123, .int (nI P)] μ (fun v ν => ∃ r, v = some (.int r) ∧ (r = nI (ct (slw s P) s.1) ∧ Fr S145 μ ν)) := by
  have h12 := hB.1
  refine Sp.go rfl rfl rfl (gX11_slipsOf_0 ?_)
  have key : ∀ d k m, k + d = s.1 → Fr S145 μ m → Ex E MX11_slipsOf (fun v ν => ∃ r, v = some (.int r) ∧ (r = nI (ct (slw s P) s.1) ∧ Fr S145 μ ν)) 4 [(0, .ref 123), (1, .int (nI P)), (2, .int (nI (ct (slw s P) k))), (3, .int (nI k))] [] m := by
    intro d
    induction d with
    | zero =>
      intro k m hk hf
      have : k = s.1 := by omega
      subst this
      refine gX11_slipsOf_4 ?_
      rw [(hM.f145 hf).1]
      simp (disch := omega) only [n_le]
      exact ⟨fun _ => ⟨_, rfl, rfl, hf⟩, fun z => by omega⟩
    | succ d ih =>
      intro k m hk hf
      refine gX11_slipsOf_4 ?_
      rw [(hM.f145 hf).1]
      simp (disch := omega) only [n_le]
      refine ⟨fun z => by omega, fun _ => ?_⟩
      have inner : ∀ e p m, p + e = 11 → Fr S145 μ m → (∀ j, j < p → m.1 145 j = oI ((pat (s.2.1 k) j).map byO)) → Ex E MX11_slipsOf (fun v ν => ∃ r, v = some (.int r) ∧ (r = nI (ct (slw s P) s.1) ∧ Fr S145 μ ν)) 15 [(0, .ref 123), (1, .int (nI P)), (2, .int (nI (ct (slw s P) k))), (3, .int (nI k)), (4, .int (nI p))] [] m := by
        intro e
        induction e with
        | zero =>
          intro p m hp hf hs
          have : p = 11 := by omega
          subst this
          have hM' := hM.f145 hf
          refine gX11_slipsOf_15 ⟨fun _ => ?_, fun z => absurd (by decide) z⟩
          simp (disch := omega) only [n_in, nI_clamp]
          rw [(hM'.2 k (by omega)).2.1, b2_0, Decidable.not_not]
          have := fun m hf => ih (k + 1) m (by omega) hf
          simp only [ct_s] at this
          refine ⟨by omega, fun z v4 e4 v5 e5 => ?_, fun z => Rt.i (cM_letsBy hP2 hB hM' (pat_k hB (by omega)) hs) ?_⟩
          · rw [if_neg (by unfold slw; simp [z])] at this
            rw [e4, e5, n_addc, n_addc]
            exact this m hf
          · rw [b2_0]
            refine ⟨fun z2 v9 e9 v10 e10 => ?_, fun z2 v11 e11 v12 e12 => ?_⟩
            · rw [if_neg (by unfold slw; simp [z2])] at this
              rw [e9, e10, n_addc, n_addc]
              exact this m hf
            · rw [Decidable.not_not] at z2
              rw [if_pos (by unfold slw; simp [z, z2])] at this
              rw [e11, e12, n_addc, n_addc]
              exact this m hf
        | succ e ihe =>
          intro p m hp hf hs
          refine gX11_slipsOf_15 ?_
          simp (disch := omega) only [n_cle, n_in, nI_clamp]
          refine ⟨fun z => by omega, fun _ => Rt.i (cM_listedAt hB (hM.f145 hf) (by omega) (by omega)) ⟨by omega, fun v16 e16 => ?_⟩⟩
          rw [e16, n_addc]
          refine ihe (p + 1) _ (by omega) (Fr.tr hf (Fr.I rfl)) (fun j hj => ?_)
          rw [mI_1]
          by_cases c : j = p
          · rw [if_pos ⟨rfl, c⟩, c]
          · rw [if_neg (fun w => c w.2)]
            exact hs j (by omega)
      exact inner 11 0 m rfl hf (fun j hj => by omega)
  exact key s.1 0 μ (by omega) Fr.rf
theorem op_slips (hL : RLi μ s) (x : Int32) : Op E MX10_slips MX11_slips [.int x] μ (fun ν => Fr SQ μ ν) := by
  by_cases c : Rg x 0 2047
  · obtain ⟨P, hP, rfl⟩ := Rg.nat (x := x) (b := 2047) c
    refine Sp.go rfl rfl rfl (gX10_slips_0 (Rt.i (cX_arePlaces _) ⟨fun z => absurd c (by rw [b2_0] at z; exact z), fun _ => Rt.i (cI_slipping (by omega) hL.1 hL.2.1) ⟨_, rfl, ?_⟩⟩))
    refine Sp.go rfl rfl rfl (gX11_slips_0 (Rt.i (cM_arePlaces _) ⟨fun z => absurd c (by rw [b2_0] at z; exact z), fun _ => Sp.i (cM_slipsOf (by omega) hL.1 hL.2.2) (fun r m hm => ⟨by rw [hm.1], hm.2.up (fun _ _ => S145_SQ)⟩)⟩))
  · refine Sp.go rfl rfl rfl (gX10_slips_0 (Rt.i (cX_arePlaces _) ⟨fun _ => ⟨_, rfl, ?_⟩, fun z => absurd (b2_f c) z⟩))
    exact Sp.go rfl rfl rfl (gX11_slips_0 (Rt.i (cM_arePlaces _) ⟨fun _ => ⟨rfl, Fr.rf⟩, fun z => absurd (b2_f c) z⟩))
theorem cM_lets {P t : Nat} (h : RC μ tn tb S) (hL : RLi μ s) (hP2 : P < 2048) (ht : 1 ≤ t ∧ t < 4) : Sp E MX11_lets [.ref 123, .int (nI t), .int (nI P)] μ (fun v m => ∃ r, v = some (.int r) ∧ (r = b2 (lta s (pat (PW (LN tn tb) tn tb t)) P s.1 0 = true) ∧ Fr SQ μ m)) := by
  have hg := h.2.1.1
  have p1 := h.pok ht.2
  have q1 := p1.1
  refine Sp.go rfl rfl rfl (gX11_lets_0 (Rt.i (cM_isWay _) ⟨fun z => by rw [b2_0, Rg.nI (by omega)] at z; omega, fun _ => Rt.i (cM_arePlaces _) ⟨fun _ => ?_, fun z => by rw [b2_0, Rg.nI (by omega)] at z; omega⟩⟩))
  refine Sp.v (cM_findPaper (w := 0) (by decide) ht.2 h) (fun m7 hm7 => ?_)
  have f7 : Fr SQ μ m7 := hm7.2.2.up (fun _ _ => SP_up)
  have key : ∀ d p m, p + d = 11 → Fr S145 m7 m → (∀ j, j < p → m.1 145 j = oI ((pat (PW (LN tn tb) tn tb t) j).map byO)) → Ex E MX11_lets (fun v m => ∃ r, v = some (.int r) ∧ (r = b2 (lta s (pat (PW (LN tn tb) tn tb t)) P s.1 0 = true) ∧ Fr SQ μ m)) 25 [(0, .ref 123), (1, .int (nI t)), (2, .int (nI P)), (3, .int (nI p))] [] m := by
    intro d
    induction d with
    | zero =>
      intro p m hp hf hs
      have : p = 11 := by omega
      subst this
      have fm : Fr SQ μ m := Fr.tr f7 (hf.up (fun _ _ => S145_SQ))
      refine gX11_lets_25 ⟨fun _ => Rt.i (cM_letsBy hP2 hL.1 (hL.fr fm).2.2 (pat_Pfk hg p1) hs) ?_, fun z => absurd (by decide) z⟩
      rw [b2_0]
      exact ⟨fun z => ⟨_, rfl, by rw [b2_f z], fm⟩, fun z => ⟨_, rfl, by rw [b2_t (by simpa using z)], fm⟩⟩
    | succ d ih =>
      intro p m hp hf hs
      have hP' : PMd m 0 (PW (LN tn tb) tn tb t) := hm7.1.fr (by omega) hf (by unfold S145; omega) (fun _ _ _ => by unfold S145; omega)
      refine gX11_lets_25 ?_
      rw [hP'.1]
      simp (disch := omega) only [n_cle, n_le, n_in, nI_clamp]
      have st : ∀ x, x = oI ((pat (PW (LN tn tb) tn tb t) p).map byO) → ∀ v7 : Int32, v7 = nI p + 1 → Ex E MX11_lets (fun v m => ∃ r, v = some (.int r) ∧ (r = b2 (lta s (pat (PW (LN tn tb) tn tb t)) P s.1 0 = true) ∧ Fr SQ μ m)) 25 [(0, .ref 123), (1, .int (nI t)), (2, .int (nI P)), (3, .int v7)] [] (mI m 145 p x) := by
        intro x hx v7 e7
        rw [e7, n_addc]
        refine ih (p + 1) _ (by omega) (Fr.tr hf (Fr.I rfl)) (fun j hj => ?_)
        rw [mI_1]
        by_cases c : j = p
        · rw [if_pos ⟨rfl, c⟩, c, hx]
        · rw [if_neg (fun w => c w.2)]
          exact hs j (by omega)
      refine ⟨fun z => by omega, fun _ => ⟨fun z => ⟨by omega, st (-1) (by unfold pat; rw [if_neg (by omega)]; rfl)⟩, fun z => ⟨by omega, ?_⟩⟩⟩
      have e5 := hP'.2 p (by omega)
      have hl := p1.2 p (by omega)
      rw [show 60 * 0 + p = p by omega] at e5
      rw [e5]
      exact Rt.i (cM_byteOf (by omega)) ⟨by omega, st _ (by unfold pat; rw [if_pos (by omega)]; rfl)⟩
  exact key 11 0 m7 rfl Fr.rf (fun j hj => by omega)
theorem op_lets (h : RC μ tn tb S) (hL : RLi μ s) (x y : Int32) : Op E MX10_lets MX11_lets [.int x, .int y] μ (fun ν => Fr SQ μ ν) := by
  have hg := h.2.1.1
  by_cases c : Rg x 1 3
  · by_cases c2 : Rg y 0 2047
    · obtain ⟨t, ht, rfl⟩ := Rg.nat (x := x) (b := 3) ⟨by have := c.1; omega, c.2⟩
      obtain ⟨P, hP, rfl⟩ := Rg.nat (x := y) (b := 2047) c2
      have c' := c
      rw [Rg.nI (by omega)] at c'
      have p1 := h.pok (t := t) (by omega)
      refine Sp.go rfl rfl rfl (gX10_lets_0 (Rt.i (cX_isWay _) ⟨fun z => absurd c (by rw [b2_0] at z; exact z), fun _ => Rt.i (cX_arePlaces _) ⟨fun _ => ?_, fun z => absurd c2 (by rw [b2_0] at z; exact z)⟩⟩))
      refine Sp.v (cX_stampWay h (Or.inl rfl) (by omega)) (fun m hm => ?_)
      have fm : Fr SQ μ m := hm.2.up (fun a k q => by unfold SQ; omega)
      refine Rt.i (cI_letsBy (by omega) hg (by omega) hL.1 (hL.fr fm).2.1 hm.1 p1) ?_
      have fin := cM_lets (E := E) (P := P) (t := t) (h.fr fm) (hL.fr fm) (by omega) (by omega)
      rw [b2_0]
      refine ⟨fun z => ⟨_, rfl, fin.mono (fun v ξ w => ?_)⟩, fun z => ⟨_, rfl, fin.mono (fun v ξ w => ?_)⟩⟩
      · obtain ⟨r, e1, e2, e3⟩ := w
        exact ⟨by rw [e1, e2, b2_f z], Fr.tr fm e3⟩
      · obtain ⟨r, e1, e2, e3⟩ := w
        exact ⟨by rw [e1, e2, b2_t (by simpa using z)], Fr.tr fm e3⟩
    · refine Sp.go rfl rfl rfl (gX10_lets_0 (Rt.i (cX_isWay _) ⟨fun z => absurd c (by rw [b2_0] at z; exact z), fun _ => Rt.i (cX_arePlaces _) ⟨fun z => absurd (b2_f c2) z, fun _ => ⟨_, rfl, ?_⟩⟩⟩))
      exact Sp.go rfl rfl rfl (gX11_lets_0 (Rt.i (cM_isWay _) ⟨fun z => absurd c (by rw [b2_0] at z; exact z), fun _ => Rt.i (cM_arePlaces _) ⟨fun z => absurd (b2_f c2) z, fun _ => ⟨rfl, Fr.rf⟩⟩⟩))
  · refine Sp.go rfl rfl rfl (gX10_lets_0 (Rt.i (cX_isWay _) ⟨fun _ => ⟨_, rfl, ?_⟩, fun z => absurd (b2_f c) z⟩))
    exact Sp.go rfl rfl rfl (gX11_lets_0 (Rt.i (cM_isWay _) ⟨fun _ => ⟨rfl, Fr.rf⟩, fun z => absurd (b2_f c) z⟩))
end SLIPS
