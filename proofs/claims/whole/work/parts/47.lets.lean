section LETS
variable {E : EV} {μ ν : Mem} {tn : Nat → Nat} {tb : Nat → Nat → Nat} {S : Nat} {q : PA} {s : LZ}
abbrev PF : Type := Nat → Option Nat
def Pfk (f : PF) : Prop := ∀ p l, f p = some l → l < 18
def uw (f g : PF) : Nat → Bool := fun j => !decide (f j = g j)
abbrev fitP (f g : PF) (P : Nat) : Prop := wb 11 (uw f g) &&& P = 0
def lta (s : LZ) (f : PF) (P : Nat) : Nat → Nat → Bool
  | 0, _ => false
  | d + 1, k => if s.2.2 k = true ∧ fitP f (pat (s.2.1 k)) P then true else lta s f P d (k + 1)
theorem fitP_iff {f g : PF} {P : Nat} : fitP f g P ↔ ∀ p, p < 11 → P.testBit p = true → f p = g p := by
  constructor
  · intro h p hp hb
    have := congrArg (fun n => n.testBit p) h
    simp only [Nat.testBit_and, wb_bit, Nat.zero_testBit, hb, Bool.and_true] at this
    unfold uw at this
    simpa [hp] using this
  · intro h
    apply Nat.eq_of_testBit_eq
    intro p
    simp only [Nat.testBit_and, wb_bit, Nat.zero_testBit]
    by_cases hp : p < 11
    · by_cases hb : P.testBit p = true
      · simp [uw, h p hp hb]
      · simp [hb]
    · simp [hp]
theorem oI_inj {a b : Option Nat} (ha : ∀ l, a = some l → l < 1000) (hb : ∀ l, b = some l → l < 1000) : (oI a = oI b) = (a = b) := by
  apply propext
  constructor
  · intro h
    cases a with
    | none => cases b with
      | none => rfl
      | some y => exact absurd h.symm (by show ¬ nI y = -1; rw [n_eqm (by have := hb y rfl; omega)]; exact fun z => z)
    | some x => cases b with
      | none => exact absurd h (by show ¬ nI x = -1; rw [n_eqm (by have := ha x rfl; omega)]; exact fun z => z)
      | some y =>
        have h : nI x = nI y := h
        rw [n_eq (by have := ha x rfl; omega) (by have := hb y rfl; omega)] at h
        rw [h]
  · intro h; rw [h]
theorem pat_Pfk {p : PA} {g m : Nat} (hg : g ≤ 9) (h : Pok g m p) : Pfk (pat p) := by
  intro i l hl
  unfold pat at hl
  split at hl
  · cases hl
    have := h.2 i (by assumption)
    omega
  · cases hl
theorem byO_inj {x y : Nat} (hx : x < 18) (hy : y < 18) (h : byO x = byO y) : x = y := by
  unfold byO at h
  split at h <;> split at h <;> omega
theorem byO_lt {x : Nat} (hx : x < 18) : byO x < 1000 := by unfold byO; split <;> omega
theorem map_inj {a b : Option Nat} (ha : ∀ l, a = some l → l < 18) (hb : ∀ l, b = some l → l < 18) : (oI (a.map byO) = oI (b.map byO)) = (a = b) := by
  rw [oI_inj (by intro l hl; cases a with
    | none => cases hl
    | some x => cases hl; exact byO_lt (ha x rfl)) (by intro l hl; cases b with
    | none => cases hl
    | some x => cases hl; exact byO_lt (hb x rfl))]
  apply propext
  constructor
  · intro h
    cases a with
    | none => cases b with
      | none => rfl
      | some y => cases h
    | some x => cases b with
      | none => cases h
      | some y => exact congrArg some (byO_inj (ha x rfl) (hb y rfl) (Option.some.inj h))
  · intro h; rw [h]
theorem uw_step {f g : PF} {k : Nat} : wb (k + 1) (uw f g) = if f k = g k then wb k (uw f g) else wb k (uw f g) ||| 2 ^ k := by
  rw [wb_s]
  unfold uw
  by_cases h : f k = g k <;> simp [h]
theorem wb_b (w : Nat → Bool) {k : Nat} (hk : k ≤ 11) : wb k w < 2048 := Nat.lt_of_lt_of_le (wb_lt w k) (Nat.le_trans (Nat.pow_le_pow_right (by decide) hk) (by decide))
theorem cI_unlikeAt {k : Nat} {g m : Nat} (hg : g ≤ 9) (hm : m ≤ 60) (hB : LB s) (hC : LC μ s) (hP : PCl μ 4 q) (hq : Pok g m q) (hk : k < s.1) : Rt E MX4_unlikeAt [.ref 78, .ref 4, .int (nI k)] μ (some (.int (nI (wb 11 (uw (pat q) (pat (s.2.1 k))))))) μ := by
  have h12 := hB.1
  refine Sp.go rfl rfl rfl (gX4_unlikeAt_0 (by decide) ?_)
  have key : ∀ d j, j + d = 11 → Ex E MX4_unlikeAt (fun v m => v = some (.int (nI (wb 11 (uw (pat q) (pat (s.2.1 k)))))) ∧ m = μ) 5 [(0, .ref 78), (1, .ref 4), (2, .int (nI k)), (3, .int (nI (wb j (uw (pat q) (pat (s.2.1 k)))))), (4, .int (nI j))] [] μ := by
    intro d
    induction d with
    | zero =>
      intro j hj
      have : j = 11 := by omega
      subst this
      exact gX4_unlikeAt_5 (by decide) ⟨fun _ => ⟨rfl, rfl⟩, fun z => absurd (by decide) z⟩
    | succ d ih =>
      intro j hj
      refine gX4_unlikeAt_5 (by decide) ?_
      simp (disch := omega) only [n_cle]
      refine ⟨fun z => by omega, fun _ => Rt.i (cP_atP (by decide) hP (by have := hq.1; omega) (by omega)) (Rt.i (cI_stampAt hB hC hk (by omega)) ?_)⟩
      have e79 : (if j < q.1 then nI (q.2 j) else -1) = oI (pat q j) := by unfold pat; split <;> rfl
      rw [e79, oI_inj (fun l hl => by have := pat_Pfk hg hq j l hl; omega) (fun l hl => by have := pat_lt hB hk hl; omega)]
      have wl := wb_b (uw (pat q) (pat (s.2.1 k))) (k := j) (by omega)
      have p2 : 2 ^ j < 2 ^ 32 := Nat.pow_lt_pow_right (by decide) (by omega)
      refine ⟨fun z v7 e7 => ?_, fun z v8 e8 v9 e9 => ?_⟩
      · have := ih (j + 1) (by omega)
        rw [uw_step (k := j), if_pos z] at this
        rw [e7, n_addc]
        exact this
      · have := ih (j + 1) (by omega)
        rw [uw_step (k := j), if_neg z] at this
        rw [e8, e9, n_addc, b_1shl (by omega), b_or (by omega) p2]
        exact this
  exact key 11 0 rfl
theorem cI_unlikeOf {k k0 : Nat} (hB : LB s) (hC : LC μ s) (hk0 : k0 < s.1) (hk : k < s.1) : Rt E MX4_unlikeOf [.ref 78, .int (nI k0), .int (nI k)] μ (some (.int (nI (wb 11 (uw (pat (s.2.1 k0)) (pat (s.2.1 k))))))) μ := by
  have h12 := hB.1
  refine Sp.go rfl rfl rfl (gX4_unlikeOf_0 ?_)
  have key : ∀ d j, j + d = 11 → Ex E MX4_unlikeOf (fun v m => v = some (.int (nI (wb 11 (uw (pat (s.2.1 k0)) (pat (s.2.1 k)))))) ∧ m = μ) 5 [(0, .ref 78), (1, .int (nI k0)), (2, .int (nI k)), (3, .int (nI (wb j (uw (pat (s.2.1 k0)) (pat (s.2.1 k)))))), (4, .int (nI j))] [] μ := by
    intro d
    induction d with
    | zero =>
      intro j hj
      have : j = 11 := by omega
      subst this
      exact gX4_unlikeOf_5 ⟨fun _ => ⟨rfl, rfl⟩, fun z => absurd (by decide) z⟩
    | succ d ih =>
      intro j hj
      refine gX4_unlikeOf_5 ?_
      simp (disch := omega) only [n_cle]
      refine ⟨fun z => by omega, fun _ => Rt.i (cI_stampAt hB hC hk0 (by omega)) (Rt.i (cI_stampAt hB hC hk (by omega)) ?_)⟩
      rw [oI_inj (fun l hl => by have := pat_lt hB hk0 hl; omega) (fun l hl => by have := pat_lt hB hk hl; omega)]
      have wl := wb_b (uw (pat (s.2.1 k0)) (pat (s.2.1 k))) (k := j) (by omega)
      have p2 : 2 ^ j < 2 ^ 32 := Nat.pow_lt_pow_right (by decide) (by omega)
      refine ⟨fun z v7 e7 => ?_, fun z v8 e8 v9 e9 => ?_⟩
      · have := ih (j + 1) (by omega)
        rw [uw_step (k := j), if_pos z] at this
        rw [e7, n_addc]
        exact this
      · have := ih (j + 1) (by omega)
        rw [uw_step (k := j), if_neg z] at this
        rw [e8, e9, n_addc, b_1shl (by omega), b_or (by omega) p2]
        exact this
  exact key 11 0 rfl
end LETS
