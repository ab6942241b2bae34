section FINDFAR
variable {E : EV} {μ ν : Mem} {A B : Nat → Nat → Prop} {L : LD} {S : Nat} {P : Nat → Prop}
theorem lS_ltM (hC : ML μ L) {l : Nat} (hl : l < 2 * L.1) : lS L l < 8 := by
  obtain ⟨h1, h2, h3, h4, h5, h6⟩ := hC
  obtain ⟨q1, q2, q3, q4, q5⟩ := h6 (l / 2) (by omega)
  unfold lS
  split
  · exact q1
  · exact q2
theorem lE_ltM (hC : ML μ L) {l : Nat} (hl : l < 2 * L.1) : lE L l < 8 := lS_ltM hC (bk_lt hl)
theorem fFJ.cg {F : Nat → Nat} (h : fFJ A F) (hb : ∀ a b, a < 8 → b < 8 → (A a b ↔ B a b)) : fFJ B F := by
  intro a b ha hb8
  obtain ⟨h1, h2, h3⟩ := h a b ha hb8
  exact ⟨h1, fun w n => h2 w ((hb a b ha hb8).2 n), fun w n => h3 w (fun z => n ((hb a b ha hb8).1 z))⟩
def fRes (ν : Mem) (B : Nat → Nat → Prop) : Prop := ∀ a b, a < 8 → b < 8 → ν.1 146 (8 * a + b) = nI ((dst B a b).getD 1000)
theorem cM_floyd {x1 x2 x3 : Int32} {F : Nat → Nat} {m : Mem} (hF : fSd B F) (hM : FMm m F) (hf : Fr S146 μ m) : Ex E MX11_findFar (fun v ν => v = none ∧ (fRes ν B ∧ Fr S146 μ ν)) 117 [(0, .ref 123), (1, .int x1), (2, .int x2), (3, .int x3), (4, .int 0)] [] m := by
  have key : ∀ n t F m, t + n = 8 → fSd B F → fTri F t → FMm m F → Fr S146 μ m → Ex E MX11_findFar (fun v ν => v = none ∧ (fRes ν B ∧ Fr S146 μ ν)) 117 [(0, .ref 123), (1, .int x1), (2, .int x2), (3, .int x3), (4, .int (nI t))] [] m := by
    intro n
    induction n with
    | zero =>
      intro t F m ht hF hT hM hf
      have : t = 8 := by omega
      subst this
      refine gX11_findFar_117 ⟨fun _ => ⟨rfl, fun a b ha hb => ?_, hf⟩, fun z => absurd (by decide) z⟩
      rw [hM _ (by omega), fdone hF hT ha hb]
    | succ n ih =>
      intro t F m ht hF hT hM hf
      have inner : ∀ e j m, j + e = 64 → (∀ i, i < 64 → m.1 146 i = nI (if i < j then fMin F t i else F i)) → Fr S146 μ m → Ex E MX11_findFar (fun v ν => v = none ∧ (fRes ν B ∧ Fr S146 μ ν)) 127 [(0, .ref 123), (1, .int x1), (2, .int x2), (3, .int x3), (4, .int (nI t)), (5, .int (nI j))] [] m := by
        intro e
        induction e with
        | zero =>
          intro j m hj hM hf
          have : j = 64 := by omega
          subst this
          refine gX11_findFar_127 ⟨fun _ v2 e2 => ?_, fun z => absurd (by decide) z⟩
          rw [e2, n_addc]
          refine ih (t + 1) (fMin F t) m (by omega) (fSd_min hF (by omega)) (fTri_min hT (by omega)) (fun i hi => ?_) hf
          rw [hM i hi, if_pos hi]
        | succ e ihe =>
          intro j m hj hM hf
          have f8 : ∀ i, i < 64 → F i ≤ 1000 := fun i hi => by
            have := (hF (i / 8) (i % 8) (by omega) (by omega)).1
            rw [show 8 * (i / 8) + i % 8 = i by omega] at this
            exact this
          have tt : F (8 * t + t) = 0 := (hF t t (by omega) (by omega)).2.1 rfl
          have r1 : m.1 146 (8 * (j / 8) + t) = nI (F (8 * (j / 8) + t)) := by
            rw [hM _ (by omega)]
            by_cases c : 8 * (j / 8) + t < j
            · rw [if_pos c]
              have := fMin_ab (F := F) (t := t) (a := j / 8) (b := t) (by omega)
              rw [this, Nat.min_eq_left (by omega)]
            · rw [if_neg c]
          have r2 : m.1 146 (8 * t + j % 8) = nI (F (8 * t + j % 8)) := by
            rw [hM _ (by omega)]
            by_cases c : 8 * t + j % 8 < j
            · rw [if_pos c]
              have := fMin_ab (F := F) (t := t) (a := t) (b := j % 8) (by omega)
              rw [this, Nat.min_eq_left (by omega)]
            · rw [if_neg c]
          have r3 : m.1 146 j = nI (F j) := by rw [hM _ (by omega), if_neg (by omega)]
          have g1 := f8 (8 * (j / 8) + t) (by omega)
          have g2 := f8 (8 * t + j % 8) (by omega)
          have g3 := f8 j (by omega)
          refine gX11_findFar_127 ?_
          simp (disch := omega) only [n_cle, n_divc, n_mod8, n_cmul, nI_add, n_in, nI_clamp]
          rw [r1, r2, r3, nI_add]
          have nxt : ∀ x, x = fMin F t j → ∀ v : Int32, v = nI j + 1 → Ex E MX11_findFar (fun v ν => v = none ∧ (fRes ν B ∧ Fr S146 μ ν)) 127 [(0, .ref 123), (1, .int x1), (2, .int x2), (3, .int x3), (4, .int (nI t)), (5, .int v)] [] (mI m 146 j (nI x)) := by
            intro x hx v ev
            rw [ev, n_addc]
            refine ihe (j + 1) _ (by omega) (fun i hi => ?_) (Fr.tr hf (Fr.I rfl))
            rw [mI_1]
            by_cases c : i = j
            · rw [if_pos ⟨rfl, c⟩, if_pos (by omega), hx, c]
            · rw [if_neg (fun w => c w.2), hM i hi]
              by_cases c2 : i < j
              · rw [if_pos c2, if_pos (by omega)]
              · rw [if_neg c2, if_neg (by omega)]
          refine ⟨fun z => by omega, fun _ => ⟨by omega, by omega, fun v5 e5 => ⟨by omega, ?_⟩⟩⟩
          rw [e5, n_le (by omega) (by omega)]
          refine ⟨fun z v8 e8 => ?_, fun z => nxt _ ?_⟩
          · rw [e8]
            exact nxt _ (by unfold fMin; rw [Nat.min_eq_left z])
          · unfold fMin
            rw [Nat.min_eq_right (by omega)]
      refine gX11_findFar_117 ?_
      simp (disch := omega) only [n_cle]
      exact ⟨fun z => by omega, fun _ => inner 64 0 m (by omega) (fun i hi => by rw [if_neg (by omega)]; exact hM i hi) hf⟩
  exact key 8 0 F m (by omega) hF (fun m a b hm => by omega) hM hf
theorem cM_findFar {x1 x2 x3 : Int32} (hC : ML μ L) (hS : S < 512) (h3 : μ.1 123 13 = nI S) (hP : ∀ g, g < L.1 → ((S.testBit g = false ∧ ¬ nI g = x1) ↔ P g)) (hB : (x2 = -1 ∧ B = adj L P) ∨ (∃ a b, a < 8 ∧ b < 8 ∧ x2 = nI a ∧ x3 = nI b ∧ B = lnk (adj L P) a b)) : Sp E MX11_findFar [.ref 123, .int x1, .int x2, .int x3] μ (fun v ν => v = none ∧ (fRes ν B ∧ Fr S146 μ ν)) := by
  have hg := hC.1
  refine Sp.go rfl rfl rfl (gX11_findFar_0 ?_)
  have ph2 : ∀ n l m F, l + n = 2 * L.1 → FMm m F → fFJ (fun c b => ∃ k, k < l ∧ P (k / 2) ∧ lS L k = c ∧ lE L k = b) F → Fr S146 μ m → Ex E MX11_findFar (fun v ν => v = none ∧ (fRes ν B ∧ Fr S146 μ ν)) 46 [(0, .ref 123), (1, .int x1), (2, .int x2), (3, .int x3), (4, .int (nI l))] [] m := by
    intro n
    induction n with
    | zero =>
      intro l m F hl hM hF hf
      have hC' : ML m L := hC.frS hf (by unfold S146; omega) (by unfold S146; omega) (fun k => by unfold S146; omega)
      have hF' : fFJ (adj L P) F := by rw [show l = 2 * L.1 by omega] at hF; exact hF
      refine gX11_findFar_46 ?_
      rw [hC'.2.2.2.1, n_cmul]
      simp (disch := omega) only [n_le]
      refine ⟨fun _ => ⟨fun z => ?_, fun z => ?_⟩, fun z => by omega⟩
      · rcases hB with ⟨_, rfl⟩ | ⟨a, b, ha, hb, e2, e3, rfl⟩
        · exact cM_floyd (fSd_of hF') hM hf
        · rw [e2, n_lt0 (by omega)] at z
          exact z.elim
      · rcases hB with ⟨e2, rfl⟩ | ⟨a, b, ha, hb, e2, e3, rfl⟩
        · rw [e2] at z
          exact absurd (by decide) z
        · subst e2
          subst e3
          refine Sp.v (cM_joins ha hb hM hF') (fun m3 h3 => ?_)
          obtain ⟨⟨F3, m3', f3⟩, fr3⟩ := h3
          refine Sp.v (cM_joins hb ha m3' f3) (fun m4 h4 => ?_)
          obtain ⟨⟨F4, m4', f4⟩, fr4⟩ := h4
          refine cM_floyd (fSd_of (f4.cg (fun c e _ _ => ?_))) m4' (Fr.tr hf (Fr.tr fr3 fr4))
          unfold lnk
          constructor
          · rintro ((h | h) | h)
            · exact Or.inl h
            · exact Or.inr (Or.inl h)
            · exact Or.inr (Or.inr h)
          · rintro (h | h | h)
            · exact Or.inl (Or.inl h)
            · exact Or.inl (Or.inr h)
            · exact Or.inr h
    | succ n ih =>
      intro l m F hl hM hF hf
      have hC' : ML m L := hC.frS hf (by unfold S146; omega) (by unfold S146; omega) (fun k => by unfold S146; omega)
      have h3' : m.1 123 13 = nI S := by rw [(hf _ _ (by unfold S146; omega)).1]; exact h3
      refine gX11_findFar_46 ?_
      rw [hC'.2.2.2.1, n_cmul]
      simp (disch := omega) only [n_le, n_divc]
      have skip : ¬ P (l / 2) → ∀ v : Int32, v = nI l + 1 → Ex E MX11_findFar (fun v ν => v = none ∧ (fRes ν B ∧ Fr S146 μ ν)) 46 [(0, .ref 123), (1, .int x1), (2, .int x2), (3, .int x3), (4, .int v)] [] m := by
        intro nP v ev
        rw [ev, n_addc]
        refine ih (l + 1) m F (by omega) hM (hF.cg (fun a b _ _ => ?_)) hf
        constructor
        · rintro ⟨k, k1, k2⟩
          exact ⟨k, by omega, k2⟩
        · rintro ⟨k, k1, k2, k3⟩
          by_cases c : k = l
          · exact absurd (c ▸ k2) nP
          · exact ⟨k, by omega, k2, k3⟩
      refine ⟨fun z => by omega, fun _ => Rt.i (cM_isShut hS h3' (by omega)) ?_⟩
      rw [b2_0]
      have hPl := hP (l / 2) (by omega)
      refine ⟨fun z => skip (fun w => z (by rw [(hPl.2 w).1]; simp)), fun z => ⟨fun z2 => skip (fun w => (hPl.2 w).2 z2), fun z2 => Rt.i (cM_start hC' (by omega)) (Rt.i (cM_end hC' (by omega)) (Sp.v (cM_joins (lS_ltM hC' (by omega)) (lE_ltM hC' (by omega)) hM hF) (fun m15 h15 v16 e16 => ?_)))⟩⟩
      obtain ⟨⟨F', hM', hF'⟩, hf'⟩ := h15
      have Pl : P (l / 2) := hPl.1 ⟨by simpa using z, z2⟩
      rw [e16, n_addc]
      refine ih (l + 1) m15 F' (by omega) hM' (hF'.cg (fun a b _ _ => ?_)) (Fr.tr hf hf')
      constructor
      · rintro (⟨k, k1, k2⟩ | ⟨k1, k2⟩)
        · exact ⟨k, by omega, k2⟩
        · exact ⟨l, by omega, Pl, k1.symm, k2.symm⟩
      · rintro ⟨k, k1, k2, k3, k4⟩
        by_cases c : k = l
        · subst c
          exact Or.inr ⟨k3.symm, k4.symm⟩
        · exact Or.inl ⟨k, by omega, k2, k3, k4⟩
  have ph1 : ∀ n j m, j + n = 64 → (∀ i, i < j → m.1 146 i = nI (if i / 8 = i % 8 then 0 else 1000)) → Fr S146 μ m → Ex E MX11_findFar (fun v ν => v = none ∧ (fRes ν B ∧ Fr S146 μ ν)) 3 [(0, .ref 123), (1, .int x1), (2, .int x2), (3, .int x3), (4, .int (nI j))] [] m := by
    intro n
    induction n with
    | zero =>
      intro j m hj hM hf
      have : j = 64 := by omega
      subst this
      refine gX11_findFar_3 ⟨fun _ => ph2 (2 * L.1) 0 m (fun i => if i / 8 = i % 8 then 0 else 1000) (by omega) hM (fun a b ha hb => ?_) hf, fun z => absurd (by decide) z⟩
      show (a = b → (if (8 * a + b) / 8 = (8 * a + b) % 8 then 0 else 1000) = 0) ∧ (a ≠ b → _ → (if (8 * a + b) / 8 = (8 * a + b) % 8 then 0 else 1000) = 1) ∧ (a ≠ b → _ → (if (8 * a + b) / 8 = (8 * a + b) % 8 then 0 else 1000) = 1000)
      rw [show (8 * a + b) / 8 = a by omega, show (8 * a + b) % 8 = b by omega]
      exact ⟨fun e => if_pos e, fun _ ⟨k, k1, _⟩ => by omega, fun e _ => if_neg e⟩
    | succ n ih =>
      intro j m hj hM hf
      refine gX11_findFar_3 ?_
      simp (disch := omega) only [n_cle, n_divc, n_mod8, n_eq, n_in, nI_clamp]
      have nxt : ∀ x, x = (if j / 8 = j % 8 then 0 else 1000) → ∀ v : Int32, v = nI j + 1 → Ex E MX11_findFar (fun v ν => v = none ∧ (fRes ν B ∧ Fr S146 μ ν)) 3 [(0, .ref 123), (1, .int x1), (2, .int x2), (3, .int x3), (4, .int v)] [] (mI m 146 j (nI x)) := by
        intro x hx v ev
        rw [ev, n_addc]
        refine ih (j + 1) _ (by omega) (fun i hi => ?_) (Fr.tr hf (Fr.I rfl))
        rw [mI_1]
        by_cases c : i = j
        · rw [if_pos ⟨rfl, c⟩, hx, c]
        · rw [if_neg (fun w => c w.2)]
          exact hM i (by omega)
      exact ⟨fun z => by omega, fun _ => ⟨fun z => ⟨by omega, nxt 1000 (by rw [if_neg z])⟩, fun z => ⟨by omega, nxt 0 (by rw [if_pos z])⟩⟩⟩
  exact ph1 64 0 μ rfl (fun i hi => by omega) Fr.rf
end FINDFAR
