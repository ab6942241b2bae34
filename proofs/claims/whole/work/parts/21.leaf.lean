section LEAF
variable {E : EV} {μ : Mem}
/-! range tests of the class -/
theorem cX_isTown (x : Int32) : Rt E MX10_isTown [.int x] μ (some (.int (if Rg x 0 7 then 1 else 0))) μ := by
  refine Sp.go rfl rfl rfl (gX10_isTown_0 ?_)
  simp only [i_lt, i_le, iL]
  grind
theorem cP_size {o : Nat} (ho : kd o = 5) : Rt E MX5_size [.ref o] μ (some (.int (μ.1 o 1))) μ :=
  Sp.go rfl rfl rfl (gX5_size_0 ho ⟨rfl, rfl⟩)
theorem cP_at {o n k : Nat} (ho : kd o = 5) (hn : μ.1 o 1 = nI n) (h60 : n ≤ 60) (hk : k < 2 ^ 31) : Rt E MX5_at [.ref o, .int (nI k)] μ (some (.int (if k < n then μ.1 (o + 1) k else -1))) μ := by
  refine Sp.go rfl rfl rfl (gX5_at_0 ho ?_)
  simp (disch := omega) only [hn, n_lt, n_le, n_lt0, n_in, nI_clamp]
  grind
end LEAF
