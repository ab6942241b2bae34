/-! letters; what both sides know of the land -/
def lo (g : Nat) (x : Int) : Option Nat := if 97 ≤ x ∧ x < 97 + g then some (2 * (x - 97).toNat) else if 65 ≤ x ∧ x < 65 + g then some (2 * (x - 65).toNat + 1) else none
theorem lo_lt {g : Nat} {x : Int} {l : Nat} (h : lo g x = some l) : l < 2 * g := by
  unfold lo at h
  split at h
  · cases h; omega
  · split at h
    · cases h; omega
    · cases h
/-- where a letter begins, where it ends, whether it is watched -/
def lS (L : LD) (l : Nat) : Nat := if l % 2 = 0 then L.2.1 (l / 2) else L.2.2.1 (l / 2)
def lE (L : LD) (l : Nat) : Nat := lS L (bk l)
def lW (L : LD) (l : Nat) : Bool := L.2.2.2.1 (l / 2)
def lO (S l : Nat) : Bool := !S.testBit (l / 2)
section CORE
variable {E : EV} {μ : Mem} {L : LD} {S : Nat}
theorem cL_letterOf (hC : CL μ L) (x : Int32) : Rt E MX3_letterOf [.ref 1, .int x] μ (some (.int (oI (lo L.1 x.toInt)))) μ := by
  refine Sp.go rfl rfl rfl (gX3_letterOf_0 ?_)
  have hg := hC.1
  rw [hC.2.2.2.1]
  simp (disch := omega) only [n_cadd]
  simp (disch := omega) only [i_lt, i_le, iL, nI_toInt]
  have sub97 : 97 ≤ x.toInt → x.toInt < 200 → 2 * (x - 97) = nI (2 * (x.toInt - 97).toNat) := by
    intro h1 h2
    obtain ⟨k, hk, rfl⟩ := Rg.nat (x := x) (b := 200) ⟨by omega, by omega⟩
    rw [nI_toInt (by omega)] at h1 ⊢
    rw [show nI k - 97 = nI (k - 97) from pk_sub (b := 97) (by omega), n_cmul]
    congr 1
    omega
  have sub65 : 65 ≤ x.toInt → x.toInt < 200 → 2 * (x - 65) + 1 = nI (2 * (x.toInt - 65).toNat + 1) := by
    intro h1 h2
    obtain ⟨k, hk, rfl⟩ := Rg.nat (x := x) (b := 200) ⟨by omega, by omega⟩
    rw [nI_toInt (by omega)] at h1 ⊢
    rw [show nI k - 65 = nI (k - 65) from pk_sub (b := 65) (by omega), n_cmul, n_addc]
    congr 1
    omega
  have n1 : ¬ (97 ≤ x.toInt ∧ x.toInt < 97 + (L.1 : Int)) → ¬ (65 ≤ x.toInt ∧ x.toInt < 65 + (L.1 : Int)) → oI (lo L.1 x.toInt) = -1 := by
    intro h1 h2
    unfold lo
    rw [if_neg h1, if_neg h2]
    rfl
  have n2 : ¬ (97 ≤ x.toInt ∧ x.toInt < 97 + (L.1 : Int)) → (65 ≤ x.toInt ∧ x.toInt < 65 + (L.1 : Int)) → oI (lo L.1 x.toInt) = 2 * (x - 65) + 1 := by
    intro h1 h2
    unfold lo
    rw [if_neg h1, if_pos h2, sub65 (by omega) (by omega)]
    rfl
  have n3 : (97 ≤ x.toInt ∧ x.toInt < 97 + (L.1 : Int)) → oI (lo L.1 x.toInt) = 2 * (x - 97) := by
    intro h1
    unfold lo
    rw [if_pos h1, sub97 (by omega) (by omega)]
    rfl
  refine ⟨fun c1 => ⟨fun c2 => ⟨?_, (by first | rfl | trivial)⟩, fun c2 => ⟨fun c3 => ⟨?_, (by first | rfl | trivial)⟩, fun c3 => ⟨?_, (by first | rfl | trivial)⟩⟩⟩, fun c1 => ⟨fun c2 => ⟨fun c3 => ⟨?_, (by first | rfl | trivial)⟩, fun c3 => ⟨fun c4 => ⟨?_, (by first | rfl | trivial)⟩, fun c4 => ⟨?_, (by first | rfl | trivial)⟩⟩⟩, fun c2 => ⟨?_, (by first | rfl | trivial)⟩⟩⟩
  · rw [n1 (by omega) (by omega)]
  · rw [n1 (by omega) (by omega)]
  · rw [n2 (by omega) (by omega)]
  · rw [n1 (by omega) (by omega)]
  · rw [n1 (by omega) (by omega)]
  · rw [n2 (by omega) (by omega)]
  · rw [n3 (by omega)]
theorem sub_toInt (x : Int32) {c : Nat} (hc : c < 1000) : 0 ≤ (x - nI c).toInt ∧ (x - nI c).toInt ≤ 100 → x.toInt = (x - nI c).toInt + c := by
  intro h
  rw [Int32.toInt_sub, nI_toInt (by omega)] at h ⊢
  have h1 := x.toInt_lt
  have h2 := x.le_toInt
  have h3 := Int.bmod_eq_of_le (n := x.toInt - c) (m := 4294967296)
  by_cases q : -2147483648 ≤ x.toInt - (c : Int)
  · have h4 := h3 (by omega) (by omega)
    rw [show (2 : Nat) ^ 32 = 4294967296 by decide] at h ⊢
    omega
  · have h4 : (x.toInt - (c : Int)).bmod (2 ^ 32) = x.toInt - c + 4294967296 := by
      rw [← Int.add_bmod_right]
      apply Int.bmod_eq_of_le <;> omega
    rw [h4] at h
    omega
theorem cM_letterOf (hC : ML μ L) (x : Int32) : Rt E MX11_letterOf [.ref 123, .int x] μ (some (.int (oI (lo L.1 x.toInt)))) μ := by
  refine Sp.go rfl rfl rfl (gX11_letterOf_0 (fun v1 e1 v2 e2 => Rt.i (cM_inL _ _ _) ?_))
  have hg := hC.1
  have e0 : (nI L.1 - 1).toInt = (L.1 : Int) - 1 := pk_sub_toInt (a := L.1) (b := 1) (by omega) (by omega)
  have z0 : (0 : Int64).toInt = 0 := by decide
  rw [hC.2.2.2.1, Int32.toInt_toInt64, e0, z0]
  have a1 := sub_toInt x (c := 97) (by omega)
  have a2 := sub_toInt x (c := 65) (by omega)
  have f1 : v1 = x - nI 97 := e1
  have f2 : v2 = x - nI 65 := e2
  rw [← f1] at a1
  rw [← f2] at a2
  have fwd : ∀ (c : Nat), c < 1000 → 0 ≤ x.toInt - c → x.toInt < 2000 → (x - nI c).toInt = x.toInt - c := by
    intro c hc h1 h2
    rw [Int32.toInt_sub, nI_toInt (by omega)]
    apply Int.bmod_eq_of_le <;> omega
  have b1 := fwd 97 (by omega)
  have b2' := fwd 65 (by omega)
  rw [← f1] at b1
  rw [← f2] at b2'
  have val : ∀ (v : Int32) (k : Nat), v.toInt = (k : Int) → k < 1000 → v = nI k := by
    intro v k h hk
    rw [i_eq, nI_toInt (by omega)]
    exact h
  refine ⟨fun c1 => Rt.i (cM_inL _ _ _) ?_, fun c1 => ⟨?_, rfl⟩⟩
  · rw [b2_0] at c1
    rw [Int32.toInt_toInt64, e0, z0]
    refine ⟨fun c2 => ⟨?_, rfl⟩, fun c2 => ⟨?_, rfl⟩⟩
    · rw [b2_0] at c2
      unfold lo
      rw [if_neg (by omega), if_neg (by omega)]
      rfl
    · rw [b2_0, Decidable.not_not] at c2
      unfold lo
      rw [if_neg (by omega), if_pos (by omega), val v2 (x.toInt - 65).toNat (by omega) (by omega), n_cmul, n_addc]
      rfl
  · rw [b2_0, Decidable.not_not] at c1
    unfold lo
    rw [if_pos (by omega), val v1 (x.toInt - 97).toNat (by omega) (by omega), n_cmul]
    rfl
theorem lS_lt (hC : CL μ L) {l : Nat} (hl : l < 2 * L.1) : lS L l < 8 ∧ μ.1 2 l = nI (lS L l) := by
  obtain ⟨h1, h2, h3, h4, h5, h6, h7⟩ := hC
  obtain ⟨q1, q2, q3, q4⟩ := h7 (l / 2) (by omega)
  unfold lS
  by_cases e : l % 2 = 0
  · rw [if_pos e]
    rw [show 2 * (l / 2) = l by omega] at q3
    exact ⟨q1, q3⟩
  · rw [if_neg e]
    rw [show 2 * (l / 2) + 1 = l by omega] at q4
    exact ⟨q2, q4⟩
theorem cL_from (hC : CL μ L) {l : Nat} (hl : l < 2 * L.1) : Rt E MX3_from [.ref 1, .int (nI l)] μ (some (.int (nI (lS L l)))) μ := by
  refine Sp.go rfl rfl rfl (gX3_from_0 ?_)
  have hg := hC.1
  simp (disch := omega) only [n_lt0, n_cle, n_in, nI_clamp]
  rw [(lS_lt hC hl).2]
  exact ⟨fun q => q.elim, fun _ => ⟨fun q => by omega, fun _ => ⟨by omega, rfl, (by first | rfl | trivial)⟩⟩⟩
theorem cL_to (hC : CL μ L) {l : Nat} (hl : l < 2 * L.1) : Rt E MX3_to [.ref 1, .int (nI l)] μ (some (.int (nI (lE L l)))) μ := by
  refine Sp.go rfl rfl rfl (gX3_to_0 ?_)
  have hg := hC.1
  have hb := bk_lt hl
  rw [bk_x0 l (by omega)]
  simp (disch := omega) only [n_lt0, n_cle, n_in, nI_clamp]
  rw [(lS_lt hC hb).2]
  exact ⟨fun q => q.elim, fun _ => ⟨fun q => by omega, fun _ => ⟨by omega, rfl, (by first | rfl | trivial)⟩⟩⟩
theorem cL_isWatched (hC : CL μ L) {l : Nat} (hl : l < 2 * L.1) : Rt E MX3_isWatched [.ref 1, .int (nI l)] μ (some (.int (b2 (lW L l = true)))) μ := by
  refine Sp.go rfl rfl rfl (gX3_isWatched_0 ?_)
  obtain ⟨h1, h2, h3, h4, h5, h6, h7⟩ := hC
  have wl : wb L.1 L.2.2.2.1 < 512 := Nat.lt_of_lt_of_le (wb_lt _ _) (Nat.pow_le_pow_right (by decide) h1)
  rw [half0 l (by omega), h5, b_bit (by omega) (by omega), tb_div, wb_bit, decide_eq_true (show l / 2 < L.1 by omega), Bool.true_and]
  simp (disch := omega) only [n_lt0]
  unfold lW
  cases L.2.2.2.1 (l / 2) <;> simp [b2, nI_0] <;> decide
theorem cL_isOpen (hS : S < 512) (h3 : μ.1 1 3 = nI S) {l : Nat} (hl : l < 18) : Rt E MX3_isOpen [.ref 1, .int (nI l)] μ (some (.int (b2 (lO S l = true)))) μ := by
  refine Sp.go rfl rfl rfl (gX3_isOpen_0 ?_)
  rw [half0 l (by omega), h3, b_bit (by omega) (by omega), tb_div]
  simp (disch := omega) only [n_lt0]
  unfold lO
  cases S.testBit (l / 2) <;> simp [b2, nI_0] <;> decide
theorem cL_hasGate (hC : CL μ L) (x : Int32) : Rt E MX3_hasGate [.ref 1, .int x] μ (some (.int (b2 (0 ≤ x.toInt ∧ x.toInt < L.1)))) μ := by
  refine Sp.go rfl rfl rfl (gX3_hasGate_0 ?_)
  have hg := hC.1
  rw [hC.2.2.2.1]
  simp (disch := omega) only [i_lt, i_le, iL, nI_toInt, b2]
  grind
theorem cM_start (hC : ML μ L) {l : Nat} (hl : l < 2 * L.1) : Rt E MX11_start [.ref 123, .int (nI l)] μ (some (.int (nI (lS L l)))) μ := by
  refine Sp.go rfl rfl rfl (gX11_start_0 ?_)
  obtain ⟨h1, h2, h3, h4, h5, h6⟩ := hC
  obtain ⟨q1, q2, q3, q4, q5⟩ := h6 (l / 2) (by omega)
  simp (disch := omega) only [n_divc, n_mod2, n_eq0, n_in, nI_clamp]
  rw [q3, q4]
  unfold lS
  refine ⟨fun c => ⟨by omega, by rw [if_neg c], (by first | rfl | trivial)⟩, fun c => ⟨by omega, by rw [if_pos c], (by first | rfl | trivial)⟩⟩
theorem cM_end (hC : ML μ L) {l : Nat} (hl : l < 2 * L.1) : Rt E MX11_end [.ref 123, .int (nI l)] μ (some (.int (nI (lE L l)))) μ := by
  refine Sp.go rfl rfl rfl (gX11_end_0 ?_)
  have hg := hC.1
  have hb := bk_lt hl
  have := cM_start (E := E) hC hb
  unfold lE
  simp (disch := omega) only [n_divc, n_mod2, n_eq0]
  refine ⟨fun c => ?_, fun c => ?_⟩
  · rw [show nI l - 1 = nI (l - 1) from pk_sub (b := 1) (by omega), show l - 1 = bk l by unfold bk; rw [if_neg c]]
    exact Rt.i this ⟨rfl, rfl⟩
  · rw [nI_1, show l + 1 = bk l by unfold bk; rw [if_pos c]]
    exact Rt.i this ⟨rfl, rfl⟩
theorem cM_isShut (hS : S < 512) (h3 : μ.1 123 13 = nI S) {j : Nat} (hj : j < 9) : Rt E MX11_isShut [.ref 123, .int (nI j)] μ (some (.int (b2 (S.testBit j = true)))) μ := by
  refine Sp.go rfl rfl rfl (gX11_isShut_0 ?_)
  rw [h3, b_bit (by omega) (by omega), tb_div]
  cases S.testBit j <;> simp [b2] <;> decide
end CORE
