section FAR
variable {E : EV} {μ ν : Mem} {L : LD} {S : Nat} {tn : Nat → Nat} {tb : Nat → Nat → Nat}
theorem Dk83 : Dok 83 := ⟨by decide, by decide, by decide, by decide⟩
theorem Dk95 : Dok 95 := ⟨by decide, by decide, by decide, by decide⟩
theorem tb_not9 {s b : Nat} (hs : s < 2 ^ 32) (hb : b < 32) : (4294967295 - s).testBit b = !s.testBit b := by
  rw [show 4294967295 - s = 2 ^ 32 - (s + 1) by omega, Nat.testBit_two_pow_sub_succ hs]
  simp [hb]
def OGm (L : LD) (S : Nat) : Nat := (2 ^ L.1 - 1) &&& (4294967295 - S)
theorem p9 {g : Nat} (hg : g ≤ 9) : 2 ^ g ≤ 512 ∧ 1 ≤ 2 ^ g := ⟨Nat.le_trans (Nat.pow_le_pow_right (by decide) hg) (by decide), Nat.one_le_two_pow⟩
theorem OGm_lt (hg : L.1 ≤ 9) : OGm L S < 512 := by
  have := p9 hg
  have := Nat.and_le_left (n := 2 ^ L.1 - 1) (m := 4294967295 - S)
  unfold OGm
  omega
theorem OGm_bit {g : Nat} (hg : L.1 ≤ 9) (hS : S < 512) (h : g < L.1) : (OGm L S).testBit g = !S.testBit g := by
  unfold OGm
  rw [Nat.testBit_and, Nat.testBit_two_pow_sub_one, tb_not9 (by omega) (by omega)]
  simp [h]
theorem cL_openGates (hC : CL μ L) (hS : S < 512) (h3 : μ.1 1 3 = nI S) : Rt E MX3_openGates [.ref 1] μ (some (.int (nI (OGm L S)))) μ := by
  have hg := hC.1
  have := p9 hg
  refine Sp.go rfl rfl rfl (gX3_openGates_0 ⟨?_, rfl⟩)
  rw [hC.2.2.2.1, h3, b_1shl (by omega), show nI (2 ^ L.1) - 1 = nI (2 ^ L.1 - 1) from pk_sub (b := 1) (by omega), b_not (by omega), b_and (by omega) (by omega)]
  rfl
def pO (S : Nat) : Nat → Prop := fun g => S.testBit g = false
theorem pO_ok (hg : L.1 ≤ 9) (hS : S < 512) : ∀ g, g < L.1 → ((OGm L S).testBit g = true ↔ pO S g) := by
  intro g h
  rw [OGm_bit hg hS h]
  unfold pO
  simp
theorem ng_m1 {g : Nat} (h : g < 2 ^ 31) : ¬ nI g = -1 := by rw [n_eqm h]; exact fun z => z
theorem pO_M (hg : L.1 ≤ 9) : ∀ g, g < L.1 → ((S.testBit g = false ∧ ¬ nI g = -1) ↔ pO S g) := fun g h => ⟨fun w => w.1, fun w => ⟨w, ng_m1 (by omega)⟩⟩
theorem SDd_SQ {d o k : Nat} (hd : d = 83 ∨ d = 95) (h : SDd d o k) : SQ o k := by unfold SDd at h; unfold SQ; omega
theorem S146_SQ {o k : Nat} (h : S146 o k) : SQ o k := by unfold S146 at h; unfold SQ; omega
theorem cX_far {a b : Nat} (h : RC μ tn tb S) (ha : a < 8) (hb : b < 8) : Sp E MX10_far [.ref 0, .int (nI a), .int (nI b)] μ (fun v m => ∃ r, v = some (.int r) ∧ (r = oI (dst (adj (LN tn tb) (pO S)) a b) ∧ Fr SQ μ m)) := by
  have hg := h.2.1.1
  have hS := h.2.2.2.1
  have ok : ∀ k : Nat, k < 8 → ¬ b2 (Rg (nI k) 0 7) = 0 := fun k hk z => by
    rw [b2_0, Rg.nI (by omega)] at z
    omega
  refine Sp.go rfl rfl rfl (gX10_far_0 (Rt.i (cX_isTown _) ⟨fun z => absurd z (ok a ha), fun _ => Rt.i (cX_isTown _) ⟨fun _ => Rt.i (cL_openGates h.2.1 hS h.2.2.2.2.1) (Sp.v (cD_measureFrom Dk83 (by decide) (OGm_lt hg) (pO_ok hg hS) h.2.1 ha) (fun m hm => Rt.i (cD_between Dk83 ha hb) ⟨_, rfl, ?_, hm.2.up (fun _ _ => SDd_SQ (Or.inl rfl))⟩)), fun z => absurd z (ok b hb)⟩⟩))
  exact hm.1 b hb
theorem cM_farOf {a b : Nat} (h : RC μ tn tb S) (ha : a < 8) (hb : b < 8) : Sp E MX11_farOf [.ref 123, .int (nI a), .int (nI b)] μ (fun v m => ∃ r, v = some (.int r) ∧ (r = oI (dst (adj (LN tn tb) (pO S)) a b) ∧ Fr SQ μ m)) := by
  have hg := h.2.1.1
  have hS := h.2.2.2.1
  refine Sp.go rfl rfl rfl (gX11_farOf_0 (Sp.i h.rl (fun r m hm => ?_)))
  obtain ⟨-, hML, hRC, hf⟩ := hm
  refine Sp.v (cM_findFar hML hS hRC.2.2.2.2.2 (pO_M hg) (Or.inl ⟨rfl, rfl⟩)) (fun m3 h3 => ?_)
  simp (disch := omega) only [n_cmul, nI_add, n_in, nI_clamp]
  refine ⟨by omega, fun v5 e5 => ?_⟩
  rw [h3.1 a b ha hb] at e5
  have fm : Fr SQ μ m3 := Fr.tr hf (h3.2.up (fun _ _ => S146_SQ))
  cases c : dst (adj (LN tn tb) (pO S)) a b with
  | none =>
    rw [c] at e5
    have e5 : v5 = nI 1000 := e5
    subst e5
    exact ⟨fun _ => ⟨_, rfl, rfl, fm⟩, fun z => absurd (by decide) z⟩
  | some n =>
    rw [c] at e5
    have e5 : v5 = nI n := e5
    have n8 := (dst_8 ha c).2 hb
    rw [e5, n_cle (by omega) (by decide)]
    exact ⟨fun z => absurd (show 1000 ≤ n from z) (by omega), fun _ => ⟨_, rfl, rfl, fm⟩⟩
theorem op_far (h : RC μ tn tb S) (x y : Int32) : Op E MX10_far MX11_far [.int x, .int y] μ (fun ν => Fr SQ μ ν) := by
  by_cases c : Rg x 0 7
  · by_cases c2 : Rg y 0 7
    · obtain ⟨a, ha, rfl⟩ := Rg.nat (x := x) (b := 7) c
      obtain ⟨b, hb, rfl⟩ := Rg.nat (x := y) (b := 7) c2
      refine Sp.i (cX_far h (by omega) (by omega)) (fun r m hm => ?_)
      refine Sp.go rfl rfl rfl (gX11_far_0 (Rt.i (cM_isTown _) ⟨fun z => absurd c (by rw [b2_0] at z; exact z), fun _ => Rt.i (cM_isTown _) ⟨fun z => absurd c2 (by rw [b2_0] at z; exact z), fun _ => ?_⟩⟩))
      refine Sp.i (cM_farOf (h.fr hm.2) (by omega) (by omega)) (fun r2 m2 hm2 => ⟨by rw [hm2.1, hm.1], Fr.tr hm.2 hm2.2⟩)
    · refine Sp.go rfl rfl rfl (gX10_far_0 (Rt.i (cX_isTown _) ⟨fun z => absurd c (by rw [b2_0] at z; exact z), fun _ => Rt.i (cX_isTown _) ⟨fun z => absurd (b2_f c2) z, fun _ => ⟨_, rfl, ?_⟩⟩⟩))
      exact Sp.go rfl rfl rfl (gX11_far_0 (Rt.i (cM_isTown _) ⟨fun z => absurd c (by rw [b2_0] at z; exact z), fun _ => Rt.i (cM_isTown _) ⟨fun _ => ⟨rfl, Fr.rf⟩, fun z => absurd (b2_f c2) z⟩⟩))
  · refine Sp.go rfl rfl rfl (gX10_far_0 (Rt.i (cX_isTown _) ⟨fun _ => ⟨_, rfl, ?_⟩, fun z => absurd (b2_f c) z⟩))
    exact Sp.go rfl rfl rfl (gX11_far_0 (Rt.i (cM_isTown _) ⟨fun _ => ⟨rfl, Fr.rf⟩, fun z => absurd (b2_f c) z⟩))
end FAR
