section WITHOUT2
variable {E : EV} {μ ν : Mem} {L : LD} {S : Nat} {tn : Nat → Nat} {tb : Nat → Nat → Nat} {A B : Nat → Nat → Prop}
def pWo (S g0 : Nat) : Nat → Prop := fun g => S.testBit g = false ∧ g ≠ g0
theorem Fr.DMs {T : Nat → Nat → Prop} {d : Nat} (h : DMs μ d A) (hf : Fr T μ ν) (hn : ∀ a k, a < 8 → ¬ T (d + 2 + a) k) : DMs ν d A := fun a b ha hb => by
  rw [(hf _ _ (hn a b ha)).1]
  exact h a b ha hb
theorem x01 {x : Int32} {w : Nat} (h : w < 2) (e : x = nI w) : ¬ x < 0 ∧ x ≤ 1 := by
  subst e
  rcases (show w = 0 ∨ w = 1 by omega) with rfl | rfl <;> decide
theorem hg_ok {g G : Nat} (h : g < G) (hG : G ≤ 9) : ¬ b2 (0 ≤ (nI g).toInt ∧ (nI g).toInt < (G : Int)) = 0 := fun z => by
  rw [b2_0, nI_toInt (by omega)] at z
  omega
theorem cX_unlike {w : Nat} (hw : w < 2) (h1 : DMs μ 83 A) (h2 : DMs μ 95 B) {F : Int32 → Mem → Prop} (k : F (nI (chV A B w)) μ) : (¬ nI w = 0 → Sp E MX0_mostUnlike [.ref 83, .ref 95] μ (fun v m13 => ∃ r14 : Int32, v = some (.int r14) ∧ F r14 m13)) ∧ (nI w = 0 → Sp E MX0_pairsUnlike [.ref 83, .ref 95] μ (fun v m15 => ∃ r16 : Int32, v = some (.int r16) ∧ F r16 m15)) := by
  rw [n_eq0 (by omega)]
  unfold chV at k
  refine ⟨fun z => ?_, fun z => ?_⟩
  · rw [if_neg z] at k
    exact Rt.i (cD_mostUnlike Dk83 Dk95 h1 h2) k
  · rw [if_pos z] at k
    exact Rt.i (cD_pairsUnlike Dk83 Dk95 h1 h2) k
theorem cX_without {g w : Nat} (h : RC μ tn tb S) (hg : g < (LN tn tb).1) (hw : w < 2) : Sp E MX10_without [.ref 0, .int (nI g), .int (nI w)] μ (fun v m => ∃ r, v = some (.int r) ∧ (r = nI (chV (adj (LN tn tb) (pO S)) (adj (LN tn tb) (pWo S g)) w) ∧ Fr SQ μ m)) := by
  have h9 := h.2.1.1
  have hS := h.2.2.2.1
  have h01 := x01 hw rfl
  have p512 := p9 (show g ≤ 9 by omega)
  have hO := OGm_lt (L := LN tn tb) (S := S) h9
  refine Sp.go rfl rfl rfl (gX10_without_0 (Rt.i (cL_hasGate h.2.1 _) ⟨fun z => absurd z (hg_ok hg h9), fun _ => ⟨fun z => absurd z h01.1, fun _ => ⟨fun _ => Rt.i (cL_openGates h.2.1 hS h.2.2.2.2.1) (fun v8 e8 => ?_), fun z => absurd h01.2 z⟩⟩⟩))
  rw [b_1shl (by omega), b_not (by omega), b_and (by omega) (by omega)] at e8
  have al := Nat.and_le_left (n := OGm (LN tn tb) S) (m := 4294967295 - 2 ^ g)
  subst e8
  rw [n_eq (by omega) (by omega)]
  have bit : ∀ k, k < (LN tn tb).1 → ((OGm (LN tn tb) S &&& (4294967295 - 2 ^ g)).testBit k = true ↔ pWo S g k) := by
    intro k hk
    rw [Nat.testBit_and, OGm_bit h9 hS hk, tb_not9 (by omega) (by omega), Nat.testBit_two_pow]
    unfold pWo
    simp
    exact fun _ => ⟨fun w => fun c => w c.symm, fun w => fun c => w c.symm⟩
  refine ⟨fun z => ?_, fun z => ?_⟩
  · refine Sp.v (cD_measure Dk83 (by decide) hO (pO_ok h9 hS) h.2.1) (fun m10 h10 => ?_)
    have h' := h.fr (h10.2.up (fun _ _ => SDd_SQ (Or.inl rfl)))
    refine Sp.v (cD_measure Dk95 (by decide) (show OGm (LN tn tb) S &&& (4294967295 - 2 ^ g) < 512 by omega) bit h'.2.1) (fun m11 h11 => ?_)
    exact cX_unlike hw (Fr.DMs h10.1 h11.2 (fun a k ha => by unfold SDd; omega)) h11.1 ⟨_, rfl, rfl, Fr.tr (h10.2.up (fun _ _ => SDd_SQ (Or.inl rfl))) (h11.2.up (fun _ _ => SDd_SQ (Or.inr rfl)))⟩
  · have sb : S.testBit g = true := by
      have b1 := bit g hg
      rw [z, OGm_bit h9 hS hg] at b1
      cases c : S.testBit g with
      | true => rfl
      | false =>
        rw [c] at b1
        exact absurd rfl (b1.1 rfl).2
    have e : pWo S g = pO S := by
      funext k
      apply propext
      unfold pWo pO
      exact ⟨fun w => w.1, fun w => ⟨w, fun c => by rw [c, sb] at w; cases w⟩⟩
    rw [e, chV_self]
    exact ⟨_, rfl, rfl, Fr.rf⟩
theorem pWo_M {g0 : Nat} (hg : L.1 ≤ 9) (h0 : g0 < 9) : ∀ g, g < L.1 → ((S.testBit g = false ∧ ¬ nI g = nI g0) ↔ pWo S g0 g) := fun g h => by
  rw [n_eq (by omega) (by omega)]
  exact Iff.rfl
theorem cM_changedW {g w : Nat} (h : RC μ tn tb S) (hC : ML μ (LN tn tb)) (hg : g < (LN tn tb).1) (hw : w < 2) : Sp E MX11_changed [.ref 123, .int (nI g), .int (-1), .int (-1), .int (nI w)] μ (fun v m => ∃ r, v = some (.int r) ∧ (r = nI (chV (adj (LN tn tb) (pO S)) (adj (LN tn tb) (pWo S g)) w) ∧ Fr S167 μ m)) := by
  have h9 := h.2.1.1
  exact cM_changed hw hC h.2.2.2.1 h.2.2.2.2.2 (pWo_M h9 (by omega)) (Or.inl ⟨rfl, rfl⟩)
theorem rg01 {x : Int32} (h1 : ¬ x < 0) (h2 : x ≤ 1) : ∃ w, w < 2 ∧ x = nI w := by
  have z : (0 : Int32).toInt = 0 ∧ (1 : Int32).toInt = 1 := by decide
  rw [i_lt, z.1] at h1
  rw [i_le, z.2] at h2
  obtain ⟨k, hk, e⟩ := Rg.nat (x := x) (b := 1) ⟨by omega, h2⟩
  exact ⟨k, by omega, e⟩
theorem rg01' {x : Int32} (h : ¬ Rg x 0 1) : x < 0 ∨ ¬ x ≤ 1 := by
  have z : (0 : Int32).toInt = 0 ∧ (1 : Int32).toInt = 1 := by decide
  rw [i_lt, z.1, i_le, z.2]
  unfold Rg at h
  omega
theorem rg01n {x : Int32} (h : Rg x 0 1) : ∃ w, w < 2 ∧ x = nI w := by
  obtain ⟨k, hk, e⟩ := Rg.nat (x := x) (b := 1) h
  exact ⟨k, by omega, e⟩
theorem op_without (h : RC μ tn tb S) (x y : Int32) : Op E MX10_without MX11_without [.int x, .int y] μ (fun ν => Fr SQ μ ν) := by
  have h9 := h.2.1.1
  have bad : ¬ ((0 ≤ x.toInt ∧ x.toInt < (LN tn tb).1) ∧ Rg y 0 1) → Sp E MX11_without [.ref 123, .int x, .int y] μ (fun v' ξ => v' = some (.int (-2)) ∧ Fr SQ μ ξ) := by
    intro hn
    refine Sp.go rfl rfl rfl (gX11_without_0 (Sp.i h.rl (fun r m hm => Rt.i (inG hm.2.1 x) ⟨fun _ => ⟨rfl, hm.2.2.2⟩, fun z => Rt.i (cM_isTwo y) ⟨fun _ => ⟨rfl, hm.2.2.2⟩, fun z2 => ?_⟩⟩)))
    rw [b2_0, Decidable.not_not] at z z2
    exact absurd ⟨z, z2⟩ hn
  by_cases c : 0 ≤ x.toInt ∧ x.toInt < (LN tn tb).1
  · by_cases c2 : Rg y 0 1
    · obtain ⟨g, hg, rfl⟩ := Rg.nat (x := x) (b := 8) ⟨c.1, by omega⟩
      obtain ⟨w, hw, rfl⟩ := rg01n c2
      rw [nI_toInt (by omega)] at c
      refine Sp.i (cX_without h (by omega) hw) (fun r m hm => ?_)
      have h' := h.fr hm.2
      refine Sp.go rfl rfl rfl (gX11_without_0 (Sp.i h'.rl (fun r2 m2 hm2 => Rt.i (inG hm2.2.1 _) ⟨fun z => absurd z (hg_ok (by omega) h9), fun z => Rt.i (cM_isTwo _) ⟨fun z2 => absurd c2 (by rw [b2_0] at z2; exact z2), fun z2 => ?_⟩⟩)))
      refine Sp.i (cM_changedW hm2.2.2.1 hm2.2.1 (by omega) hw) (fun r3 m3 hm3 => ⟨?_, ?_⟩)
      · rw [hm3.1, hm.1]
      · exact Fr.tr hm.2 (Fr.tr hm2.2.2.2 (hm3.2.up (fun _ _ => S167_SQ)))
    · refine Sp.go rfl rfl rfl (gX10_without_0 (Rt.i (cL_hasGate h.2.1 _) ⟨fun z => ⟨_, rfl, bad (fun w => c2 w.2)⟩, fun _ => ⟨fun z => ⟨_, rfl, bad (fun w => c2 w.2)⟩, fun z => ⟨fun z2 => ?_, fun z => ⟨_, rfl, bad (fun w => c2 w.2)⟩⟩⟩⟩))
      rcases rg01' c2 with q | q
      · exact absurd q z
      · exact absurd z2 q
  · refine Sp.go rfl rfl rfl (gX10_without_0 (Rt.i (cL_hasGate h.2.1 _) ⟨fun z => ⟨_, rfl, bad (fun w => c w.1)⟩, fun z => ?_⟩))
    rw [b2_0, Decidable.not_not] at z
    exact absurd z c
theorem op_with (h : RC μ tn tb S) (x y u : Int32) : Op E MX10_with MX11_with [.int x, .int y, .int u] μ (fun ν => Fr SQ μ ν) := by
  have h9 := h.2.1.1
  have hS := h.2.2.2.1
  have bad : ¬ (Rg x 0 7 ∧ Rg y 0 7 ∧ Rg u 0 1) → Sp E MX11_with [.ref 123, .int x, .int y, .int u] μ (fun v' ξ => v' = some (.int (-2)) ∧ Fr SQ μ ξ) := by
    intro hn
    refine Sp.go rfl rfl rfl (gX11_with_0 (Sp.i h.rl (fun r m hm => Rt.i (cM_isTown x) ⟨fun _ => ⟨rfl, hm.2.2.2⟩, fun z => Rt.i (cM_isTown y) ⟨fun _ => ⟨rfl, hm.2.2.2⟩, fun z2 => Rt.i (cM_isTwo u) ⟨fun _ => ⟨rfl, hm.2.2.2⟩, fun z3 => ?_⟩⟩⟩)))
    rw [b2_0, Decidable.not_not] at z z2 z3
    exact absurd ⟨z, z2, z3⟩ hn
  refine Sp.go rfl rfl rfl (gX10_with_0 (Rt.i (cX_isTown x) ⟨fun z => ⟨_, rfl, bad (fun w => ?_)⟩, fun c => Rt.i (cX_isTown y) ⟨fun z => ⟨_, rfl, bad (fun w => ?_)⟩, fun c2 => ⟨fun z => ⟨_, rfl, bad (fun w => ?_)⟩, fun c3 => ⟨fun c4 => ?_, fun z => ⟨_, rfl, bad (fun w => ?_)⟩⟩⟩⟩⟩))
  · rw [b2_0] at z; exact z w.1
  · rw [b2_0] at z; exact z w.2.1
  · obtain ⟨k, hk, e⟩ := rg01n w.2.2
    exact (x01 hk e).1 z
  · rw [b2_0, Decidable.not_not] at c c2
    obtain ⟨a, ha, rfl⟩ := Rg.nat (x := x) (b := 7) c
    obtain ⟨b, hb, rfl⟩ := Rg.nat (x := y) (b := 7) c2
    obtain ⟨w, hw, rfl⟩ := rg01 c3 c4
    have c5 : Rg (nI w) 0 1 := by rw [Rg.nI (by omega)]; omega
    refine Rt.i (cL_openGates h.2.1 hS h.2.2.2.2.1) (Sp.v (cD_measure Dk83 (by decide) (OGm_lt h9) (pO_ok h9 hS) h.2.1) (fun m11 h11 => ?_))
    have f11 := h11.2.up (T := SQ) (fun _ _ => SDd_SQ (Or.inl rfl))
    have h' := h.fr f11
    refine Rt.i (cL_openGates h'.2.1 hS h'.2.2.2.2.1) (Sp.v (cD_measureLinked Dk95 (by decide) (OGm_lt h9) (pO_ok h9 hS) h'.2.1 (by omega) (by omega)) (fun m14 h14 => ?_))
    have f14 := Fr.tr f11 (h14.2.up (T := SQ) (fun _ _ => SDd_SQ (Or.inr rfl)))
    have h'' := h.fr f14
    refine cX_unlike hw (Fr.DMs h11.1 h14.2 (fun a k ha => by unfold SDd; omega)) h14.1 ⟨_, rfl, ?_⟩
    refine Sp.go rfl rfl rfl (gX11_with_0 (Sp.i h''.rl (fun r m hm => Rt.i (cM_isTown _) ⟨fun z => absurd c (by rw [b2_0] at z; exact z), fun z => Rt.i (cM_isTown _) ⟨fun z => absurd c2 (by rw [b2_0] at z; exact z), fun z2 => Rt.i (cM_isTwo _) ⟨fun z => absurd c5 (by rw [b2_0] at z; exact z), fun z3 => ?_⟩⟩⟩)))
    refine Sp.i (cM_changed hw hm.2.1 hS hm.2.2.1.2.2.2.2.2 (pO_M h9) (Or.inr ⟨a, b, by omega, by omega, rfl, rfl, rfl⟩)) (fun r3 m3 hm3 => ⟨?_, ?_⟩)
    · rw [hm3.1]
    · exact Fr.tr f14 (Fr.tr hm.2.2.2 (hm3.2.up (fun _ _ => S167_SQ)))
  · obtain ⟨k, hk, e⟩ := rg01n w.2.2
    exact z (x01 hk e).2
end WITHOUT2
