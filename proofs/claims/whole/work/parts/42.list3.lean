section LIST3
variable {E : EV} {μ ν : Mem} {tn : Nat → Nat} {tb : Nat → Nat → Nat} {S : Nat} {s : LZ}
theorem b2_c {p q : Prop} [Decidable p] [Decidable q] (h : p ↔ q) : b2 p = b2 q := by unfold b2; simp [h]
theorem pat_lt {k p l : Nat} (hB : LB s) (hk : k < s.1) (h : pat (s.2.1 k) p = some l) : l < 18 := by
  unfold pat at h
  split at h
  · cases h
    have := (hB.2 k hk).2 p (by assumption)
    omega
  · cases h
theorem cI_stampAt {k p : Nat} (hB : LB s) (hC : LC μ s) (hk : k < s.1) (hp : p < 11) : Rt E MX4_stampAt [.ref 78, .int (nI k), .int (nI p)] μ (some (.int (oI (pat (s.2.1 k) p)))) μ := by
  have h12 := hB.1
  refine Sp.go rfl rfl rfl (gX4_stampAt_0 ?_)
  rw [hC.1]
  simp (disch := omega) only [n_lt0, n_le, n_cle, n_mulc, nI_add, n_in, nI_clamp]
  refine ⟨fun z => z.elim, fun _ => ⟨fun z => by omega, fun _ => ⟨fun z => z.elim, fun _ => ⟨fun z => by omega, fun _ => ⟨by omega, ?_, (by first | rfl | trivial)⟩⟩⟩⟩⟩
  rw [Nat.mul_comm k 11, (hC.2 k hk).2.2 p hp]
theorem cM_listedAt {k p : Nat} (hB : LB s) (hM : LM μ s) (hk : k < s.1) (hp : p < 11) : Rt E MX11_listedAt [.ref 123, .int (nI k), .int (nI p)] μ (some (.int (oI ((pat (s.2.1 k) p).map byO)))) μ := by
  have h12 := hB.1
  obtain ⟨h60, -⟩ := hB.2 k hk
  obtain ⟨a, b, c⟩ := hM.2 k hk
  refine Sp.go rfl rfl rfl (gX11_listedAt_0 ?_)
  simp (disch := omega) only [n_in, nI_clamp, n_cmul, nI_add]
  rw [a]
  simp (disch := omega) only [n_le]
  refine ⟨by omega, fun z => ⟨?_, (by first | rfl | trivial)⟩, fun z => ⟨by omega, ?_, (by first | rfl | trivial)⟩⟩
  · unfold pat; rw [if_neg (by omega)]; rfl
  · unfold pat; rw [if_pos (by omega), c p (by omega)]; rfl
theorem cX_byteOfO {o : Option Nat} (h : ∀ l, o = some l → l < 18) : Rt E MX10_byteOf [.int (oI o)] μ (some (.int (oI (o.map byO)))) μ := by
  cases o with
  | none => exact cX_byteOfN
  | some l => exact cX_byteOf (by have := h l rfl; omega)
theorem cn1 : ∀ n, n < 13 → (nI n - 1).toInt = (n : Int) - 1 := by decide
theorem op_listed (hL : RLi μ s) (x y : Int32) : Op E MX10_listed MX11_listed [.int x, .int y] μ (fun ν => Fr SQ μ ν) := by
  obtain ⟨hB, hC, hM⟩ := hL
  have h12 := hB.1
  have in1 : Rt E MX11_in [.long (Int32.toInt64 x), .long 0, .long (Int32.toInt64 (μ.1 123 28 - 1))] μ (some (.int (b2 (0 ≤ x.toInt ∧ x.toInt < s.1)))) μ := by
    have := cM_inL (E := E) (μ := μ) x 0 (Int32.toInt64 (nI s.1 - 1))
    rw [hM.1]
    rw [b2_c (q := 0 ≤ x.toInt ∧ x.toInt < s.1) (by rw [Int32.toInt_toInt64, cn1 _ (by omega), show (0 : Int64).toInt = 0 by decide]; omega)] at this
    exact this
  have in2 : Rt E MX11_in [.long (Int32.toInt64 y), .long (-1), .long 10] μ (some (.int (b2 (-1 ≤ y.toInt ∧ y.toInt < 11)))) μ := by
    have := cM_inL (E := E) (μ := μ) y (-1) 10
    rw [b2_c (q := -1 ≤ y.toInt ∧ y.toInt < 11) (by rw [show (-1 : Int64).toInt = -1 by decide, show (10 : Int64).toInt = 10 by decide]; omega)] at this
    exact this
  have bad : ¬ ((0 ≤ x.toInt ∧ x.toInt < s.1) ∧ (-1 ≤ y.toInt ∧ y.toInt < 11)) → Sp E MX11_listed [.ref 123, .int x, .int y] μ (fun v' ξ => v' = some (.int (-2)) ∧ Fr SQ μ ξ) := by
    intro hb
    refine Sp.go rfl rfl rfl (gX11_listed_0 (Rt.i in1 ⟨fun _ => ⟨rfl, Fr.rf⟩, fun z => Rt.i in2 ⟨fun z2 => ?_, fun _ => ⟨rfl, Fr.rf⟩⟩⟩))
    rw [b2_0, Decidable.not_not] at z z2
    exact absurd ⟨z, z2⟩ hb
  have e0 : (0 : Int32).toInt = 0 := by decide
  have e1 : (-1 : Int32).toInt = -1 := by decide
  have e11 : (11 : Int32).toInt = 11 := by decide
  have ec : (nI s.1).toInt = s.1 := nI_toInt (by omega)
  refine Sp.go rfl rfl rfl (gX10_listed_0 ?_)
  simp only [i_lt, i_le, e0, e1, e11]
  refine ⟨fun z => ⟨_, rfl, bad (by omega)⟩, fun z1 => Rt.i (cI_size hC) ⟨fun z => ⟨_, rfl, bad (by omega)⟩, fun z2 => ⟨fun z => ⟨_, rfl, bad (by omega)⟩, fun z3 => ⟨fun z4 => ?_, fun z => ⟨_, rfl, bad (by omega)⟩⟩⟩⟩⟩
  obtain ⟨k, hk, rfl⟩ := Rg.nat (x := x) (b := 11) ⟨by omega, by omega⟩
  have ek : (nI k).toInt = k := nI_toInt (by omega)
  have ks : k < s.1 := by omega
  have good : ∀ r, ((¬ y = -1 → Sp E MX11_listedAt [.ref 123, .int (nI k), .int y] μ (fun v m8 => ∃ r9 : Int32, v = some (.int r9) ∧ (some (Value.int r9) = some (.int r) ∧ Fr SQ μ m8))) ∧ (y = -1 → nI (s.2.1 k).1 = r)) → Sp E MX11_listed [.ref 123, .int (nI k), .int y] μ (fun v' ξ => v' = some (.int r) ∧ Fr SQ μ ξ) := by
    intro r hr
    refine Sp.go rfl rfl rfl (gX11_listed_0 (Rt.i in1 ⟨fun z => ?_, fun _ => Rt.i in2 ⟨fun _ => ⟨hr.1, fun z => ?_⟩, fun z => ?_⟩⟩))
    · rw [b2_0, nI_toInt (by omega)] at z
      omega
    · simp (disch := omega) only [n_in, nI_clamp]
      refine ⟨by omega, ?_, Fr.rf⟩
      rw [(hM.2 k ks).1, hr.2 z]
    · rw [b2_0] at z
      omega
  refine ⟨fun z => ?_, fun z => ?_⟩
  · rw [m1_eq] at z
    obtain ⟨p, hp, rfl⟩ := Rg.nat (x := y) (b := 10) ⟨by omega, by omega⟩
    refine Rt.i (cI_stampAt hB hC ks (by omega)) (Rt.i (cX_byteOfO (fun l => pat_lt hB ks)) ⟨_, rfl, good _ ⟨fun _ => Rt.i (cM_listedAt hB hM ks (by omega)) ⟨rfl, Fr.rf⟩, fun z2 => ?_⟩⟩)
    rw [m1_eq] at z2
    exact absurd z2 z
  · have so : Rt E MX4_stampsOf [.ref 78, .int (nI k)] μ (some (.int (nI (s.2.1 k).1))) μ := by
      refine Sp.go rfl rfl rfl (gX4_stampsOf_0 ?_)
      rw [hC.1]
      simp (disch := omega) only [n_lt0, n_le, n_in, nI_clamp]
      refine ⟨fun z => z.elim, fun _ => ⟨fun z => by omega, fun _ => ⟨by omega, ?_, (by first | rfl | trivial)⟩⟩⟩
      rw [(hC.2 k ks).1]
    exact Rt.i so ⟨_, rfl, good _ ⟨fun z2 => absurd z z2, fun _ => rfl⟩⟩
-- counting bits
def ct (w : Nat → Bool) : Nat → Nat
  | 0 => 0
  | k + 1 => ct w k + if w k then 1 else 0
def ctb (n : Nat) : Nat := ct n.testBit 11
def bcf (x0 : Int32) : Int32 :=
  let v1 := x0 - (((Int32.toUInt32 x0 >>> (Int32.toUInt32 1 &&& Int32.toUInt32 31)).toInt32) &&& ((1431655765)))
  let v2 := (v1 &&& ((858993459))) + (((Int32.toUInt32 v1 >>> (Int32.toUInt32 2 &&& Int32.toUInt32 31)).toInt32) &&& ((858993459)))
  let v3 := (v2 + ((Int32.toUInt32 v2 >>> (Int32.toUInt32 4 &&& Int32.toUInt32 31)).toInt32)) &&& ((252645135))
  let v4 := v3 + ((Int32.toUInt32 v3 >>> (Int32.toUInt32 8 &&& Int32.toUInt32 31)).toInt32)
  let v5 := v4 + ((Int32.toUInt32 v4 >>> (Int32.toUInt32 16 &&& Int32.toUInt32 31)).toInt32)
  v5 &&& 63
theorem bcf_ok : ∀ a, a < 32 → ∀ b, b < 64 → bcf (nI (64 * a + b)) = nI (ctb (64 * a + b)) := by decide +kernel
theorem ones_ok : ∀ a, a < 32 → ∀ b, b < 64 → 64 * a + b = 0 ∨ ((64 * a + b) &&& (64 * a + b - 1) < 64 * a + b ∧ ctb ((64 * a + b) &&& (64 * a + b - 1)) + 1 = ctb (64 * a + b)) := by decide +kernel
theorem cJ_bitCount {n : Nat} (hn : n < 2048) : Rt E MJ6_bitCount_0f7a4 [.int (nI n)] μ (some (.int (nI (ctb n)))) μ := by
  have := bcf_ok (n / 64) (by omega) (n % 64) (by omega)
  rw [show 64 * (n / 64) + n % 64 = n by omega] at this
  refine Sp.go rfl rfl rfl (gJ6_bitCount_0f7a4_0 (fun v1 e1 v2 e2 v3 e3 v4 e4 v5 e5 => ⟨?_, rfl⟩))
  rw [← this]
  subst e1 e2 e3 e4 e5
  rfl
theorem ctb_0 : ctb 0 = 0 := by decide
theorem cM_ones {n : Nat} (hn : n < 2048) : Rt E MX11_ones [.int (nI n)] μ (some (.int (nI (ctb n)))) μ := by
  have key : ∀ b k c, k < b → k < 2048 → Ex E MX11_ones (fun v m => v = some (.int (nI (c + ctb k))) ∧ m = μ) 4 [(0, .int (nI n)), (1, .int (nI c)), (2, .int (nI k))] [] μ := by
    intro b
    induction b with
    | zero => intro k c hk; omega
    | succ b ih =>
      intro k c hk hk2
      have := ones_ok (k / 64) (by omega) (k % 64) (by omega)
      rw [show 64 * (k / 64) + k % 64 = k by omega] at this
      refine gX11_ones_4 ?_
      simp (disch := omega) only [n_eq0, n_addc]
      refine ⟨fun z => ⟨by rw [z, ctb_0]; rfl, (by first | rfl | trivial)⟩, fun z v2 e2 v3 e3 => ?_⟩
      obtain ⟨z1, z2⟩ := this.resolve_left z
      rw [show nI k - 1 = nI (k - 1) from pk_sub (b := 1) (by omega), b_and (by omega) (by omega)] at e3
      rw [e2, e3, ← z2, show c + (ctb (k &&& (k - 1)) + 1) = (c + 1) + ctb (k &&& (k - 1)) by omega]
      exact ih _ _ (by omega) (by omega)
  refine Sp.go rfl rfl rfl (gX11_ones_0 ?_)
  have := key (n + 1) n 0 (by omega) hn
  rw [Nat.zero_add] at this
  exact this
theorem ct_congr {w v : Nat → Bool} : ∀ k, (∀ j, j < k → w j = v j) → ct w k = ct v k
  | 0, _ => rfl
  | k + 1, h => by
    unfold ct
    rw [ct_congr k (fun j hj => h j (by omega)), h k (by omega)]
theorem ct_cut {w : Nat → Bool} {g : Nat} : ∀ d, ct (fun j => decide (j < g) && w j) (g + d) = ct w g
  | 0 => ct_congr g (fun j hj => by simp [hj])
  | d + 1 => by
    show ct _ (g + d) + (if (decide (g + d < g) && w (g + d)) then 1 else 0) = _
    rw [ct_cut d, if_neg (by simp [show ¬ g + d < g by omega])]
    rfl
theorem ctb_wb {w : Nat → Bool} {g : Nat} (hg : g ≤ 9) : ctb (wb g w) = ct w g := by
  have := ct_cut (w := w) (g := g) (11 - g)
  rw [show g + (11 - g) = 11 by omega] at this
  rw [← this]
  exact ct_congr 11 (fun j _ => wb_bit w j g)
theorem ct_le (w : Nat → Bool) : ∀ k, ct w k ≤ k
  | 0 => Nat.le_refl _
  | k + 1 => by
    have := ct_le w k
    show ct w k + (if w k then 1 else 0) ≤ k + 1
    split <;> omega
end LIST3
