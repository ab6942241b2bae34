/-! helpers for contracts -/
def Rt (E : EV) (M : MT) (as : List Value) (μ : Mem) (v : Option Value) (ν : Mem) : Prop := Sp E M as μ (fun v' ν' => v' = v ∧ ν' = ν)
section RT
variable {E : EV} {M : MT} {as : List Value} {μ ν : Mem}
theorem Rt.i {F : Int32 → Mem → Prop} {r : Int32} (h : Rt E M as μ (some (.int r)) ν) (k : F r ν) : Sp E M as μ (fun v m => ∃ r : Int32, v = some (.int r) ∧ F r m) := h.mono (fun _ _ q => ⟨r, q.1, by rw [q.2]; exact k⟩)
theorem Rt.l {F : Int64 → Mem → Prop} {r : Int64} (h : Rt E M as μ (some (.long r)) ν) (k : F r ν) : Sp E M as μ (fun v m => ∃ r : Int64, v = some (.long r) ∧ F r m) := h.mono (fun _ _ q => ⟨r, q.1, by rw [q.2]; exact k⟩)
theorem Rt.v {F : Mem → Prop} (h : Rt E M as μ none ν) (k : F ν) : Sp E M as μ (fun v m => v = none ∧ F m) := h.mono (fun _ _ q => ⟨q.1, by rw [q.2]; exact k⟩)
theorem Rt.r {F : Mem → Prop} {a : Nat} (h : Rt E M as μ (some (.ref a)) ν) (k : F ν) : Sp E M as μ (fun v m => v = some (.ref a) ∧ F m) := h.mono (fun _ _ q => ⟨q.1, by rw [q.2]; exact k⟩)
theorem Sp.i {F : Int32 → Mem → Prop} {G : Int32 → Mem → Prop} (h : Sp E M as μ (fun v m => ∃ r : Int32, v = some (.int r) ∧ G r m)) (k : ∀ r m, G r m → F r m) : Sp E M as μ (fun v m => ∃ r : Int32, v = some (.int r) ∧ F r m) := h.mono (fun _ _ ⟨r, q1, q2⟩ => ⟨r, q1, k r _ q2⟩)
theorem Sp.v {F G : Mem → Prop} (h : Sp E M as μ (fun v m => v = none ∧ G m)) (k : ∀ m, G m → F m) : Sp E M as μ (fun v m => v = none ∧ F m) := h.mono (fun _ _ q => ⟨q.1, k _ q.2⟩)
theorem Sp.l {F G : Int64 → Mem → Prop} (h : Sp E M as μ (fun v m => ∃ r : Int64, v = some (.long r) ∧ G r m)) (k : ∀ r m, G r m → F r m) : Sp E M as μ (fun v m => ∃ r : Int64, v = some (.long r) ∧ F r m) := h.mono (fun _ _ ⟨r, q1, q2⟩ => ⟨r, q1, k r _ q2⟩)
end RT
/-! numbers: nI k against literals -/
theorem n_lt {k c : Nat} (hk : k < 2 ^ 31) (hc : c < 2 ^ 31) : (nI k < nI c) = (k < c) := propext (nI_ltI hk hc)
theorem n_le {k c : Nat} (hk : k < 2 ^ 31) (hc : c < 2 ^ 31) : (nI k ≤ nI c) = (k ≤ c) := propext (nI_leI hk hc)
theorem n_eq {k c : Nat} (hk : k < 2 ^ 31) (hc : c < 2 ^ 31) : (nI k = nI c) = (k = c) := propext (nI_eq hk hc)
theorem n_ltc {k c : Nat} (hk : k < 2 ^ 31) (hc : (OfNat.ofNat c : Nat) < 2 ^ 31) : (nI k < (no_index (OfNat.ofNat c) : Int32)) = (k < (OfNat.ofNat c : Nat)) := propext (nI_ltI hk hc)
theorem n_lec {k c : Nat} (hk : k < 2 ^ 31) (hc : (OfNat.ofNat c : Nat) < 2 ^ 31) : (nI k ≤ (no_index (OfNat.ofNat c) : Int32)) = (k ≤ (OfNat.ofNat c : Nat)) := propext (nI_leI hk hc)
theorem n_eqc {k c : Nat} (hk : k < 2 ^ 31) (hc : (OfNat.ofNat c : Nat) < 2 ^ 31) : (nI k = (no_index (OfNat.ofNat c) : Int32)) = (k = (OfNat.ofNat c : Nat)) := propext (nI_eq hk hc)
theorem n_clt {k c : Nat} (hk : k < 2 ^ 31) (hc : (OfNat.ofNat c : Nat) < 2 ^ 31) : ((no_index (OfNat.ofNat c) : Int32) < nI k) = ((OfNat.ofNat c : Nat) < k) := propext (nI_ltI hc hk)
theorem n_cle {k c : Nat} (hk : k < 2 ^ 31) (hc : (OfNat.ofNat c : Nat) < 2 ^ 31) : ((no_index (OfNat.ofNat c) : Int32) ≤ nI k) = ((OfNat.ofNat c : Nat) ≤ k) := propext (nI_leI hc hk)
theorem n_ceq {k c : Nat} (hk : k < 2 ^ 31) (hc : (OfNat.ofNat c : Nat) < 2 ^ 31) : ((no_index (OfNat.ofNat c) : Int32) = nI k) = ((OfNat.ofNat c : Nat) = k) := propext (nI_eq hc hk)
theorem n_addc (k c : Nat) : nI k + (no_index (OfNat.ofNat c) : Int32) = nI (k + (OfNat.ofNat c : Nat)) := nI_add k c
theorem n_cadd (k c : Nat) : (no_index (OfNat.ofNat c) : Int32) + nI k = nI ((OfNat.ofNat c : Nat) + k) := nI_add c k
theorem n_mulc (k c : Nat) : nI k * (no_index (OfNat.ofNat c) : Int32) = nI (k * (OfNat.ofNat c : Nat)) := pk_mul k c
theorem n_cmul (k c : Nat) : (no_index (OfNat.ofNat c) : Int32) * nI k = nI ((OfNat.ofNat c : Nat) * k) := pk_mul c k
theorem n_subc {k c : Nat} (h : (OfNat.ofNat c : Nat) ≤ k) : nI k - (no_index (OfNat.ofNat c) : Int32) = nI (k - (OfNat.ofNat c : Nat)) := pk_sub h
theorem n_csub {k c : Nat} (h : k ≤ (OfNat.ofNat c : Nat)) : (no_index (OfNat.ofNat c) : Int32) - nI k = nI ((OfNat.ofNat c : Nat) - k) := pk_sub h
theorem n_divc {a c : Nat} (ha : a < 2 ^ 31) (h0 : 0 < (OfNat.ofNat c : Nat)) (hc : (OfNat.ofNat c : Nat) < 2 ^ 31) : nI a / (no_index (OfNat.ofNat c) : Int32) = nI (a / (OfNat.ofNat c : Nat)) := pk_div ha h0 hc
theorem n_modc {a c : Nat} (ha : a < 2 ^ 31) (h0 : 0 < (OfNat.ofNat c : Nat)) (hc : (OfNat.ofNat c : Nat) < 2 ^ 31) : nI a - nI a / (no_index (OfNat.ofNat c) : Int32) * (no_index (OfNat.ofNat c) : Int32) = nI (a % (OfNat.ofNat c : Nat)) := pk_rem ha h0 hc
theorem n_modd {a c : Nat} (ha : a < 2 ^ 31) (h0 : 0 < (OfNat.ofNat c : Nat)) (hc : (OfNat.ofNat c : Nat) < 2 ^ 31) : nI a - nI (a / (OfNat.ofNat c : Nat)) * (no_index (OfNat.ofNat c) : Int32) = nI (a % (OfNat.ofNat c : Nat)) := by
  rw [← n_divc ha h0 hc]
  exact n_modc ha h0 hc
theorem n_lt0 {k : Nat} (hk : k < 2 ^ 31) : (nI k < 0) = False := eq_false (nI_pos hk)
theorem n_0le {k : Nat} (hk : k < 2 ^ 31) : ((0 : Int32) ≤ nI k) = True := eq_true (nI_pos' hk)
theorem n_le0 {k : Nat} (hk : k < 2 ^ 31) : (nI k ≤ 0) = (k = 0) := by
  rw [show (0 : Int32) = nI 0 from rfl, n_le hk (by decide)]
  simp
theorem n_0lt {k : Nat} (hk : k < 2 ^ 31) : ((0 : Int32) < nI k) = (0 < k) := n_clt (c := 0) hk (by decide)
theorem n_eq0 {k : Nat} (hk : k < 2 ^ 31) : (nI k = 0) = (k = 0) := n_eqc (c := 0) hk (by decide)
theorem n_eqm {k : Nat} (hk : k < 2 ^ 31) : (nI k = -1) = False := by
  refine eq_false (fun h => ?_)
  have h1 := congrArg Int32.toInt h
  rw [nI_toInt hk] at h1
  have h2 : (-1 : Int32).toInt = -1 := by decide
  rw [h2] at h1
  omega
theorem n_in {k N : Nat} (hk : k < 2 ^ 31) (hN : N < 2 ^ 31) : vp_in (nI k) N = (k < N) := by
  rw [vp_in_iff, nI_toInt hk]
  exact propext ⟨fun h => by omega, fun h => by omega⟩
/-! memory -/
theorem mI_1 {μ : Mem} {o k a b : Nat} {x : Int32} : (mI μ o k x).1 a b = if a = o ∧ b = k then x else μ.1 a b := rfl
theorem mI_2 {μ : Mem} {o k : Nat} {x : Int32} : (mI μ o k x).2 = μ.2 := rfl
theorem mJ_1 {μ : Mem} {o k : Nat} {x : Int64} : (mJ μ o k x).1 = μ.1 := rfl
theorem mJ_2 {μ : Mem} {o k a b : Nat} {x : Int64} : (mJ μ o k x).2 a b = if a = o ∧ b = k then x else μ.2 a b := rfl
theorem Sp.go {E : EV} {M : MT} {as : List Value} {μ : Mem} {Q : Po} (hy : plainName M.1.cls = true) (hn : Nat.ble (lg_sl as).length M.2.2.1 = true) {ls : List (Nat × Value)} (hl : lv_args 0 as = ls) (h : Ex E M Q 0 ls [] μ) : Sp E M as μ Q := Sp.of hy (Nat.le_of_ble_eq_true hn) hl h
/-! bits -/
theorem sh31 : ∀ j, j < 32 → ((nI j &&& 31).toBitVec.smod 32).toNat = j := by decide +kernel
theorem b_shr {n j : Nat} (hn : n < 2 ^ 31) (hj : j < 32) : nI n >>> (nI j &&& 31) = nI (n / 2 ^ j) := pk_shrN hn _ j (sh31 j hj)
theorem b_shl {n j : Nat} (hj : j < 32) (h : n * 2 ^ j < 2 ^ 32) : nI n <<< (nI j &&& 31) = nI (n * 2 ^ j) := pk_shlN _ j (sh31 j hj) h
theorem b_1shl {j : Nat} (hj : j < 31) : (1 : Int32) <<< (nI j &&& 31) = nI (2 ^ j) := by
  have h := b_shl (n := 1) (j := j) (by omega) (by
    rw [Nat.one_mul]
    exact Nat.pow_lt_pow_right (by decide) (by omega))
  rw [Nat.one_mul] at h
  exact h
theorem b_and1 {n : Nat} (hn : n < 2 ^ 31) : nI n &&& 1 = nI (n % 2) := pk_andN (m := 1) (by omega) 1 (by decide)
theorem i32_ext {x y : Int32} (h : x.toBitVec.toNat = y.toBitVec.toNat) : x = y := Int32.toBitVec_inj.mp (BitVec.eq_of_toNat_eq h)
theorem b_and {a b : Nat} (ha : a < 2 ^ 32) (hb : b < 2 ^ 32) : nI a &&& nI b = nI (a &&& b) := by
  apply i32_ext
  rw [Int32.toBitVec_and, BitVec.toNat_and, pk_tn ha, pk_tn hb, pk_tn (Nat.and_lt_two_pow a hb)]
theorem b_or {a b : Nat} (ha : a < 2 ^ 32) (hb : b < 2 ^ 32) : nI a ||| nI b = nI (a ||| b) := by
  apply i32_ext
  rw [Int32.toBitVec_or, BitVec.toNat_or, pk_tn ha, pk_tn hb, pk_tn (Nat.or_lt_two_pow ha hb)]
theorem b_xor {a b : Nat} (ha : a < 2 ^ 32) (hb : b < 2 ^ 32) : nI a ^^^ nI b = nI (a ^^^ b) := by
  apply i32_ext
  rw [Int32.toBitVec_xor, BitVec.toNat_xor, pk_tn ha, pk_tn hb, pk_tn (Nat.xor_lt_two_pow ha hb)]
theorem b_not {b : Nat} (hb : b < 2 ^ 32) : nI b ^^^ (-1) = nI (4294967295 - b) := by
  apply i32_ext
  rw [Int32.toBitVec_xor, BitVec.toNat_xor, pk_tn hb, pk_tn (by omega)]
  have h1 : (-1 : Int32).toBitVec.toNat = 2 ^ 32 - 1 := by decide
  rw [h1]
  apply Nat.eq_of_testBit_eq
  intro i
  rw [Nat.testBit_xor, show 4294967295 - b = 2 ^ 32 - (b + 1) by omega, Nat.testBit_two_pow_sub_succ hb, Nat.testBit_two_pow_sub_one]
  by_cases h : i < 32
  · simp [h]
  · have : b.testBit i = false := Nat.testBit_lt_two_pow (Nat.lt_of_lt_of_le hb (Nat.pow_le_pow_right (by decide) (by omega)))
    simp [h, this]
theorem b_bit {B j : Nat} (hB : B < 2 ^ 31) (hj : j < 32) : (nI B >>> (nI j &&& 31)) &&& 1 = nI (B / 2 ^ j % 2) := by
  rw [b_shr hB hj, b_and1 (Nat.lt_of_le_of_lt (Nat.div_le_self _ _) hB)]
theorem tb_div (B j : Nat) : B / 2 ^ j % 2 = if B.testBit j then 1 else 0 := by
  rw [Nat.testBit_eq_decide_div_mod_eq]
  rcases Nat.mod_two_eq_zero_or_one (B / 2 ^ j) with h | h <;> simp [h]
/-- the same letter, the other way about -/
def bk (l : Nat) : Nat := if l % 2 = 0 then l + 1 else l - 1
theorem bk_x0 : ∀ l, l < 64 → nI l ^^^ 1 = nI (bk l) := by decide +kernel
theorem bk_lt {l g : Nat} (h : l < 2 * g) : bk l < 2 * g := by unfold bk; split <;> omega
theorem bk_bk (l : Nat) : bk (bk l) = l := by unfold bk; split <;> split <;> omega
theorem half0 : ∀ l, l < 64 → nI l >>> ((1 : Int32) &&& 31) = nI (l / 2) := by decide +kernel
/-! an int in a range -/
abbrev Rg (x : Int32) (a b : Int) : Prop := a ≤ x.toInt ∧ x.toInt ≤ b
theorem Rg.nat {x : Int32} {b : Nat} (h : Rg x 0 b) : ∃ k : Nat, k ≤ b ∧ x = nI k := by
  have h2 := x.toInt_lt
  refine ⟨x.toInt.toNat, by omega, ?_⟩
  apply Int32.toInt_inj.mp
  rw [nI_toInt (by omega)]
  omega
theorem Rg.nI {k : Nat} {a b : Int} (hk : k < 2 ^ 31) : Rg (nI k) a b ↔ a ≤ (k : Int) ∧ (k : Int) ≤ b := by
  unfold Rg
  rw [nI_toInt hk]
theorem i_lt (x y : Int32) : (x < y) = (x.toInt < y.toInt) := propext Int32.lt_iff_toInt_lt
theorem i_le (x y : Int32) : (x ≤ y) = (x.toInt ≤ y.toInt) := propext Int32.le_iff_toInt_le
theorem i_eq (x y : Int32) : (x = y) = (x.toInt = y.toInt) := propext Int32.toInt_inj.symm
theorem iL (n : Nat) (h : (OfNat.ofNat n : Nat) < 2 ^ 31) : (no_index (OfNat.ofNat n) : Int32).toInt = ((OfNat.ofNat n : Nat) : Int) := nI_toInt h
