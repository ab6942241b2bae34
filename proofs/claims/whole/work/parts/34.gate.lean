section GATE
variable {E : EV} {μ ν : Mem} {tn : Nat → Nat} {tb : Nat → Nat → Nat} {S : Nat} {L : LD}
theorem inG (hC : ML μ L) (x : Int32) : Rt E MX11_in [.long (Int32.toInt64 x), .long 0, .long (Int32.toInt64 ((μ.1 123 8) - 1))] μ (some (.int (b2 (0 ≤ x.toInt ∧ x.toInt < L.1)))) μ := by
  have := cM_inL (E := E) (μ := μ) x 0 (Int32.toInt64 ((μ.1 123 8) - 1))
  have hg := hC.1
  have e0 : (nI L.1 - 1).toInt = (L.1 : Int) - 1 := pk_sub_toInt (a := L.1) (b := 1) (by omega) (by omega)
  have e : b2 ((0 : Int64).toInt ≤ x.toInt ∧ x.toInt ≤ (Int32.toInt64 ((μ.1 123 8) - 1)).toInt) = b2 (0 ≤ x.toInt ∧ x.toInt < L.1) := by
    rw [hC.2.2.2.1, Int32.toInt_toInt64, e0, show (0 : Int64).toInt = 0 by decide]
    unfold b2
    by_cases q : 0 ≤ x.toInt ∧ x.toInt < L.1
    · rw [if_pos q, if_pos (by omega)]
    · rw [if_neg q, if_neg (by omega)]
  rw [e] at this
  exact this
theorem op_gate (h : RC μ tn tb S) (x y : Int32) : Op E MX10_gate MX11_gate [.int x, .int y] μ (fun ν => Fr SQ μ ν) := by
  have hL := h.2.1
  have hg := hL.1
  have z : (0 : Int32).toInt = 0 ∧ (3 : Int32).toInt = 3 ∧ (3 : Int64).toInt = 3 ∧ (0 : Int64).toInt = 0 := by decide
  -- the reference
  have ref : ∀ r : Int32, (¬ (0 ≤ x.toInt ∧ x.toInt < (LN tn tb).1) ∨ ¬ Rg y 0 3 → r = -2) → (∀ j k : Nat, j < (LN tn tb).1 → k ≤ 3 → x = nI j → y = nI k → r = if k = 0 then nI ((LN tn tb).2.1 j) else if k = 1 then nI ((LN tn tb).2.2.1 j) else if k = 2 then (if (LN tn tb).2.2.2.1 j then 1 else 0) else (if S.testBit j then 1 else 0)) → Sp E MX11_gate [.ref 123, .int x, .int y] μ (fun v' ξ => v' = some (.int r) ∧ Fr SQ μ ξ) := by
    intro r hb hgood
    refine Sp.go rfl rfl rfl (gX11_gate_0 (Sp.i h.rl (fun r2 m hm => ?_)))
    obtain ⟨-, hML, hRC, hf⟩ := hm
    refine Rt.i (inG hML x) ⟨fun c => ⟨by rw [b2_0] at c; rw [hb (Or.inl c)], hf⟩, fun c => Rt.i (cM_inL _ _ _) ⟨fun c2 => ?_, fun c2 => ⟨?_, hf⟩⟩⟩
    · rw [b2_0, Decidable.not_not] at c c2
      rw [z.2.2.1, z.2.2.2] at c2
      obtain ⟨j, hj, rfl⟩ := Rg.nat (x := x) (b := 8) ⟨by omega, by omega⟩
      obtain ⟨k, hk, rfl⟩ := Rg.nat (x := y) (b := 3) c2
      rw [nI_toInt (by omega)] at c
      have hr := hgood j k (by omega) hk rfl rfl
      obtain ⟨q1, q2, q3, q4, q5⟩ := hML.2.2.2.2.2 j (by omega)
      simp (disch := omega) only [n_eqc, n_eq0, n_in, nI_clamp]
      refine ⟨fun k0 => ⟨fun k1 => ⟨fun k2 => ?_, fun k2 => ?_⟩, fun k1 => ?_⟩, fun k0 => ?_⟩
      · rw [if_neg k0, if_neg k1, if_neg k2] at hr
        refine Rt.i (cM_isShut hRC.2.2.2.1 hRC.2.2.2.2.2 (by omega)) ⟨fun q => ⟨?_, hf⟩, fun q => ⟨?_, hf⟩⟩
        · rw [b2_0] at q; rw [hr, if_neg q]
        · rw [b2_0, Decidable.not_not] at q; rw [hr, if_pos q]
      · rw [if_neg k0, if_neg k1, if_pos k2] at hr
        refine ⟨by omega, fun q => ⟨?_, hf⟩, fun q => ⟨?_, hf⟩⟩
        · rw [hr]
          rw [q5] at q
          cases hw : (LN tn tb).2.2.2.1 j
          · rfl
          · rw [hw] at q; exact absurd q (by decide)
        · rw [hr]
          rw [q5] at q
          cases hw : (LN tn tb).2.2.2.1 j
          · rw [hw] at q; exact absurd rfl q
          · rfl
      · rw [if_neg k0, if_pos k1] at hr
        exact ⟨by omega, by rw [hr, q4], hf⟩
      · rw [if_pos k0] at hr
        exact ⟨by omega, by rw [hr, q3], hf⟩
    · rw [b2_0] at c2
      rw [hb (Or.inr c2)]
  refine Sp.go rfl rfl rfl (gX10_gate_0 (Rt.i (cL_hasGate hL x) ⟨fun c => ⟨_, rfl, ref _ (fun _ => rfl) (fun j k hj hk hx hy => ?_)⟩, fun c => ?_⟩))
  · rw [b2_0] at c
    rw [hx, nI_toInt (by omega)] at c
    omega
  rw [b2_0, Decidable.not_not] at c
  refine ⟨fun c2 => ⟨_, rfl, ref _ (fun _ => rfl) (fun j k hj hk hx hy => ?_)⟩, fun c2 => ⟨fun c3 => ?_, fun c3 => ⟨_, rfl, ref _ (fun _ => rfl) (fun j k hj hk hx hy => ?_)⟩⟩⟩
  · rw [hy, n_lt0 (by omega)] at c2; exact c2.elim
  rotate_left
  · rw [hy, i_le, nI_toInt (by omega), z.2.1] at c3; omega
  rw [i_lt, z.1] at c2
  rw [i_le, z.2.1] at c3
  obtain ⟨j, hj, rfl⟩ := Rg.nat (x := x) (b := 8) ⟨by omega, by omega⟩
  obtain ⟨k, hk, rfl⟩ := Rg.nat (x := y) (b := 3) ⟨by omega, by omega⟩
  rw [nI_toInt (by omega)] at c
  obtain ⟨q1, q2, q3, q4⟩ := hL.2.2.2.2.2.2 j (by omega)
  have m0 : 2 * j % 2 = 0 := by omega
  have d0 : 2 * j / 2 = j := by omega
  have bad : ∀ r : Int32, (¬ (0 ≤ (nI j).toInt ∧ (nI j).toInt < (LN tn tb).1) ∨ ¬ Rg (nI k) 0 3 → r = -2) := by
    intro r q
    rw [nI_toInt (by omega), Rg.nI (by omega)] at q
    omega
  have good : ∀ r : Int32, (r = if k = 0 then nI ((LN tn tb).2.1 j) else if k = 1 then nI ((LN tn tb).2.2.1 j) else if k = 2 then (if (LN tn tb).2.2.2.1 j then 1 else 0) else (if S.testBit j then 1 else 0)) → Sp E MX11_gate [.ref 123, .int (nI j), .int (nI k)] μ (fun v' ξ => v' = some (.int r) ∧ Fr SQ μ ξ) := by
    intro r hr
    refine ref r (bad r) (fun j2 k2 hj2 hk2 hx hy => ?_)
    rw [nI_eq (by omega) (by omega)] at hx hy
    subst hx hy
    exact hr
  simp (disch := omega) only [n_eqc, n_eq0, n_cmul]
  refine ⟨fun k0 => ?_, fun k1 => ?_, fun k2 => ?_, fun k0 k1 k2 => ?_⟩
  · refine Rt.i (cL_from hL (by omega)) ⟨_, rfl, good _ ?_⟩
    unfold lS
    rw [if_pos k0, if_pos m0, d0]
  · refine Rt.i (cL_to hL (by omega)) ⟨_, rfl, good _ ?_⟩
    unfold lE lS bk
    rw [if_pos m0, if_neg (by omega), if_neg (by omega), if_pos k1, show (2 * j + 1) / 2 = j by omega]
  · refine Rt.i (cL_isWatched hL (by omega)) ⟨fun q => ⟨_, rfl, good _ ?_⟩, fun q => ⟨_, rfl, good _ ?_⟩⟩
    · rw [b2_0] at q
      unfold lW at q
      rw [d0] at q
      rw [if_neg (by omega), if_neg (by omega), if_pos k2, if_neg q]
    · rw [b2_0, Decidable.not_not] at q
      unfold lW at q
      rw [d0] at q
      rw [if_neg (by omega), if_neg (by omega), if_pos k2, if_pos q]
  · refine Rt.i (cL_isOpen h.2.2.2.1 h.2.2.2.2.1 (by omega)) ⟨fun q => ⟨_, rfl, good _ ?_⟩, fun q => ⟨_, rfl, good _ ?_⟩⟩
    · rw [b2_0] at q
      unfold lO at q
      rw [d0] at q
      rw [if_neg k0, if_neg k1, if_neg k2, if_pos (by simpa using q)]
    · rw [b2_0, Decidable.not_not] at q
      unfold lO at q
      rw [d0] at q
      rw [if_neg k0, if_neg k1, if_neg k2, if_neg (by simpa using q)]
end GATE
