/-! the memory that both constructors leave -/
def m0 : Mem := (fun o k => if o = 114 ∨ o = 124 then -1 else if o = 1 ∧ k = 4 then 11 else if o = 1 ∧ k = 5 then -1 else if o = 115 ∧ k = 1 then 50 else if (o = 117 ∨ o = 119 ∨ o = 121) ∧ k = 1 then 30 else 0, fun _ _ => 0)
theorem m0_0 {o k : Nat} (h : o ≠ 114 ∧ o ≠ 124 ∧ ¬ (o = 1 ∧ (k = 4 ∨ k = 5)) ∧ ¬ (115 ≤ o ∧ o ≤ 121 ∧ k = 1)) : m0.1 o k = 0 := by
  show (if o = 114 ∨ o = 124 then _ else _) = _
  rw [if_neg (by omega), if_neg (by omega), if_neg (by omega), if_neg (by omega), if_neg (by omega)]
theorem m0_RC : RC m0 (fun _ => 0) (fun _ _ => 0) 0 := by
  have lnd : land ((fun _ => 0 : Nat → Nat) 0) ((fun _ _ => 0 : Nat → Nat → Nat) 0) = (none, L0) := rfl
  refine ⟨fun t ht => ⟨Nat.zero_le _, fun k hk => absurd hk (Nat.not_lt_zero k), ⟨m0_0 (by omega), fun k hk => absurd hk (Nat.not_lt_zero k)⟩, ⟨m0_0 (by omega), fun k hk => absurd hk (Nat.not_lt_zero k)⟩, ?_⟩, ?_, rfl, by decide, rfl, rfl⟩
  · rcases (show t = 0 ∨ t = 1 ∨ t = 2 ∨ t = 3 by omega) with rfl | rfl | rfl | rfl <;> rfl
  · exact ⟨by decide, by decide, by decide, rfl, rfl, rfl, fun k hk => absurd hk (Nat.not_lt_zero k)⟩
theorem m0_RS : RS m0 := ⟨rfl, fun s hs => ⟨rfl, Or.inl rfl⟩⟩
theorem m0_RLi : RLi m0 (0, fun _ => p0, fun _ => false) := by
  refine ⟨⟨Nat.zero_le _, fun k hk => absurd hk (Nat.not_lt_zero k)⟩, ⟨rfl, fun k hk => absurd hk (Nat.not_lt_zero k)⟩, ⟨rfl, fun k hk => absurd hk (Nat.not_lt_zero k)⟩⟩
theorem m0_Inv : Inv m0 := ⟨⟨_, _, _, m0_RC⟩, m0_RS, _, m0_RLi⟩
