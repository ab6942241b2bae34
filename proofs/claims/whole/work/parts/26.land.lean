/-! the text of the land: what it says -/
abbrev LD : Type := Nat × (Nat → Nat) × (Nat → Nat) × (Nat → Bool) × Nat
/-- the byte at a place, as a number; behind the end -1 -/
def tA (n : Nat) (b : Nat → Nat) (i : Nat) : Int := if i < n then (b i : Int) else -1
def tI (n : Nat) (b : Nat → Nat) (i : Nat) : Int32 := if i < n then nI (b i) else -1
abbrev isTb (x : Int) : Prop := 48 ≤ x ∧ x ≤ 55
abbrev isFg (x : Int) : Prop := 48 ≤ x ∧ x ≤ 57
def up {α : Type} (f : Nat → α) (k : Nat) (v : α) : Nat → α := fun j => if j = k then v else f j
def pGate (n : Nat) (b : Nat → Nat) (a : Nat) (L : LD) : Nat × Bool × LD :=
  if ¬ isTb (tA n b a) ∨ 9 ≤ L.1 then (a, false, L)
  else if ¬ isTb (tA n b (a + 1)) then (a + 1, false, L)
  else (if tA n b (a + 2) = 117 then a + 3 else a + 2, true, (L.1 + 1, up L.2.1 L.1 (b a - 48), up L.2.2.1 L.1 (b (a + 1) - 48), up L.2.2.2.1 L.1 (decide (¬ tA n b (a + 2) = 117)), L.2.2.2.2))
/-- the number that is told -/
def pNum (n : Nat) (b : Nat → Nat) (a : Nat) : Nat := if isFg (tA n b (a + 2)) then 10 * (b (a + 1) - 48) + (b (a + 2) - 48) else b (a + 1) - 48
def pRoom (n : Nat) (b : Nat → Nat) (a : Nat) (L : LD) : Nat × Bool × LD :=
  if ¬ isFg (tA n b (a + 1)) then (a + 1, false, L)
  else if pNum n b a < 1 ∨ 11 < pNum n b a then (a + 1, false, L)
  else (if isFg (tA n b (a + 2)) then a + 3 else a + 2, true, (L.1, L.2.1, L.2.2.1, L.2.2.2.1, pNum n b a))
def pPart (n : Nat) (b : Nat → Nat) (a : Nat) (L : LD) : Nat × Bool × LD := if tA n b a = 114 then pRoom n b a L else pGate n b a L
def pGo (n : Nat) (b : Nat → Nat) : Nat → Nat → LD → Option Nat × LD
  | 0, a, L => (some a, L)
  | f + 1, a, L =>
    if (pPart n b a L).2.1 = false then (some (pPart n b a L).1, L)
    else if (pPart n b a L).1 = n then (none, (pPart n b a L).2.2)
    else if ¬ tA n b (pPart n b a L).1 = 59 then (some (pPart n b a L).1, (pPart n b a L).2.2)
    else pGo n b f ((pPart n b a L).1 + 1) (pPart n b a L).2.2
def L0 : LD := (0, fun _ => 0, fun _ => 0, fun _ => false, 11)
/-- where the fault is, and the land -/
def land (n : Nat) (b : Nat → Nat) : Option Nat × LD := if n = 0 then (none, L0) else if (pGo n b 50 0 L0).1 = none then pGo n b 50 0 L0 else ((pGo n b 50 0 L0).1, L0)
def oI (o : Option Nat) : Int32 := match o with
  | none => -1
  | some k => nI k
theorem tI_toInt {n : Nat} {b : Nat → Nat} (hb : ∀ k, k < n → b k < 256) (i : Nat) : (tI n b i).toInt = tA n b i := by
  unfold tI tA
  split
  · rename_i h
    exact nI_toInt (by have := hb i h; omega)
  · decide
theorem tA_lt {n : Nat} {b : Nat → Nat} {i : Nat} (h : 0 ≤ tA n b i) : i < n ∧ tA n b i = b i := by
  unfold tA at h ⊢
  split at h
  · rename_i q; exact ⟨q, by rw [if_pos q]⟩
  · omega
theorem pPart_ok {n : Nat} {b : Nat → Nat} {a : Nat} {L : LD} (h : (pPart n b a L).2.1 = true) : a + 2 ≤ (pPart n b a L).1 ∧ (pPart n b a L).1 ≤ n := by
  unfold pPart at h ⊢
  split
  · rename_i q0
    rw [if_pos q0] at h
    unfold pRoom at h ⊢
    split at h
    · cases h
    · rename_i q
      rw [if_neg q]
      split at h
      · cases h
      · rename_i q1
        rw [if_neg q1]
        have := (tA_lt (n := n) (b := b) (i := a + 1) (by omega)).1
        split
        · rename_i q2
          have := (tA_lt (n := n) (b := b) (i := a + 2) (by omega)).1
          dsimp only
          omega
        · dsimp only
          omega
  · rename_i q0
    rw [if_neg q0] at h
    unfold pGate at h ⊢
    split at h
    · cases h
    · rename_i q
      rw [if_neg q]
      split at h
      · cases h
      · rename_i q1
        rw [if_neg q1]
        have := (tA_lt (n := n) (b := b) (i := a + 1) (by omega)).1
        split
        · rename_i q2
          have := (tA_lt (n := n) (b := b) (i := a + 2) (by omega)).1
          dsimp only
          omega
        · dsimp only
          omega
/-- the watched gates as bits -/
def wb : Nat → (Nat → Bool) → Nat
  | 0, _ => 0
  | g + 1, w => if w g then wb g w ||| 2 ^ g else wb g w
theorem wb_congr {w v : Nat → Bool} : ∀ g, (∀ j, j < g → w j = v j) → wb g w = wb g v
  | 0, _ => rfl
  | g + 1, h => by
    unfold wb
    rw [h g (by omega), wb_congr g (fun j hj => h j (by omega))]
theorem wb_bit (w : Nat → Bool) (j : Nat) : ∀ g, (wb g w).testBit j = (decide (j < g) && w j)
  | 0 => by simp [wb]
  | g + 1 => by
    unfold wb
    split
    · rename_i h
      rw [Nat.testBit_or, wb_bit w j g, Nat.testBit_two_pow]
      by_cases e : g = j
      · subst e; simp [h]
      · have : decide (j < g + 1) = decide (j < g) := by congr 1; apply propext; omega
        simp [e, this]
    · rename_i h
      rw [wb_bit w j g]
      by_cases e : g = j
      · subst e; simp [h]
      · have : decide (j < g + 1) = decide (j < g) := by congr 1; apply propext; omega
        simp [this]
theorem wb_lt (w : Nat → Bool) : ∀ g, wb g w < 2 ^ g
  | 0 => by simp [wb]
  | g + 1 => by
    have h := wb_lt w g
    unfold wb
    split
    · exact Nat.or_lt_two_pow (Nat.lt_trans h (Nat.pow_lt_pow_right (by decide) (by omega))) (Nat.pow_lt_pow_right (by decide) (by omega))
    · exact Nat.lt_trans h (Nat.pow_lt_pow_right (by decide) (by omega))
/-- a text of the class, of the reference -/
def TC (μ : Mem) (t n : Nat) (b : Nat → Nat) : Prop := μ.1 (115 + 2 * t) 2 = nI n ∧ ∀ k, k < n → μ.1 (115 + 2 * t + 1) k = nI (b k)
def TM (μ : Mem) (t n : Nat) (b : Nat → Nat) : Prop := μ.1 129 t = nI n ∧ ∀ k, k < n → μ.1 128 (offT t + k) = nI (b k)
/-- the land that the class knows, but for the fault -/
def CL (μ : Mem) (L : LD) : Prop := L.1 ≤ 9 ∧ 1 ≤ L.2.2.2.2 ∧ L.2.2.2.2 ≤ 11 ∧ μ.1 1 1 = nI L.1 ∧ μ.1 1 2 = nI (wb L.1 L.2.2.2.1) ∧ μ.1 1 4 = nI L.2.2.2.2 ∧ ∀ k, k < L.1 → L.2.1 k < 8 ∧ L.2.2.1 k < 8 ∧ μ.1 2 (2 * k) = nI (L.2.1 k) ∧ μ.1 2 (2 * k + 1) = nI (L.2.2.1 k)
def SL (o k : Nat) : Prop := (o = 1 ∧ k ≠ 3 ∧ k ≠ 5) ∨ o = 2
def SL5 (o k : Nat) : Prop := (o = 1 ∧ k ≠ 3) ∨ o = 2
theorem CL.fr {μ ν : Mem} {L : LD} (h : CL μ L) (f1 : ν.1 1 1 = μ.1 1 1) (f2 : ν.1 1 2 = μ.1 1 2) (f4 : ν.1 1 4 = μ.1 1 4) (f : ∀ k, k < 18 → ν.1 2 k = μ.1 2 k) : CL ν L := by
  obtain ⟨h1, h2, h3, h4, h5, h6, h7⟩ := h
  refine ⟨h1, h2, h3, by rw [f1, h4], by rw [f2, h5], by rw [f4, h6], fun k hk => ?_⟩
  obtain ⟨q1, q2, q3, q4⟩ := h7 k hk
  exact ⟨q1, q2, by rw [f _ (by omega), q3], by rw [f _ (by omega), q4]⟩
section CLAND
variable {E : EV} {μ : Mem} {n : Nat} {b : Nat → Nat}
theorem cT_atT {t : Nat} (ht : t < 4) (hT : TC μ t n b) (hn : n ≤ 50) {i : Nat} (hi : i < 2 ^ 31) : Rt E MX8_at [.ref (115 + 2 * t), .int (nI i)] μ (some (.int (tI n b i))) μ := by
  have := cT_at (E := E) (sTx0 t ht) hT.1 hn hi
  unfold tI
  by_cases h : i < n
  · rw [if_pos h, hT.2 i h] at this
    rw [if_pos h]
    exact this
  · rw [if_neg h] at this ⊢
    exact this
theorem cL_isTownByte (x : Int32) : Rt E MX3_isTownByte [.int x] μ (some (.int (b2 (isTb x.toInt)))) μ := by
  refine Sp.go rfl rfl rfl (gX3_isTownByte_0 ?_)
  simp only [i_lt, i_le, iL, b2]
  grind
theorem cL_isFigure (x : Int32) : Rt E MX3_isFigure [.int x] μ (some (.int (b2 (isFg x.toInt)))) μ := by
  refine Sp.go rfl rfl rfl (gX3_isFigure_0 ?_)
  simp only [i_lt, i_le, iL, b2]
  grind
theorem TC.fr {ν : Mem} {t : Nat} (h : TC μ t n b) (hf : Fr SL μ ν) : TC ν t n b := by
  refine ⟨?_, fun k hk => ?_⟩
  · rw [(hf _ _ (by unfold SL; omega)).1]; exact h.1
  · rw [(hf _ _ (by unfold SL; omega)).1]; exact h.2 k hk
theorem not_nI {k : Nat} (h : k < 2 ^ 31) : (nI k ^^^ (-1)) < 0 ∧ (nI k ^^^ (-1)) ^^^ (-1) = nI k := by
  constructor
  · rw [b_not (by omega), i_lt]
    have e : nI (4294967295 - k) = Int32.ofInt (-(k : Int) - 1) := by
      apply i32_ext
      rw [pk_tn (by omega), Int32.toBitVec_ofInt, BitVec.toNat_ofInt]
      omega
    rw [e, Int32.toInt_ofInt_of_le (by omega) (by omega)]
    have : (0 : Int32).toInt = 0 := by decide
    omega
  · rw [b_not (by omega), b_not (by omega)]
    congr 1
    omega
end CLAND
