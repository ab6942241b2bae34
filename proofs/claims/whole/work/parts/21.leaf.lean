/-! the small methods of both sides -/
def b2 (p : Prop) [Decidable p] : Int32 := if p then 1 else 0
theorem b2_0 {p : Prop} [Decidable p] : (b2 p = 0) = ¬ p := by unfold b2; split <;> simp_all
theorem b2_1 {p : Prop} [Decidable p] : (b2 p = 1) = p := by unfold b2; split <;> simp_all
theorem b2_or {p : Prop} [Decidable p] : b2 p = 0 ∨ b2 p = 1 := by unfold b2; split <;> simp
theorem b2_t {p : Prop} [Decidable p] (h : p) : b2 p = 1 := by simp [b2, h]
theorem b2_f {p : Prop} [Decidable p] (h : ¬ p) : b2 p = 0 := by simp [b2, h]
theorem jL (n : Nat) (h : (OfNat.ofNat n : Nat) < 2 ^ 63) : (no_index (OfNat.ofNat n) : Int64).toInt = ((OfNat.ofNat n : Nat) : Int) := pk_lT h
theorem cmp_lt (x y : Int64) : (lg_cmp x y < 0) = (x.toInt < y.toInt) := by
  have h := lg_cmp_ge x y
  rw [Int64.le_iff_toInt_le] at h
  apply propext
  constructor
  · intro q
    have h1 : ¬ (0 ≤ lg_cmp x y) := by rw [i_le]; rw [i_lt] at q; omega
    rw [h] at h1
    omega
  · intro q
    have h1 : ¬ (0 ≤ lg_cmp x y) := by rw [h]; omega
    rw [i_le] at h1
    rw [i_lt]
    omega
theorem cmp_gt (x y : Int64) : (0 < lg_cmp x y) = (y.toInt < x.toInt) := by
  unfold lg_cmp
  simp only [gt_iff_lt, Int64.lt_iff_toInt_lt, ← Int64.toInt_inj]
  apply propext
  by_cases h : y.toInt < x.toInt
  · simp [h]
  · by_cases h2 : x.toInt = y.toInt
    · simp [h2]
    · simp [h, h2]
theorem n_mod2 {a : Nat} (ha : a < 2 ^ 31) : nI a - nI (a / 2) * 2 = nI (a % 2) := n_modd (c := 2) ha (by decide) (by decide)
theorem n_mod8 {a : Nat} (ha : a < 2 ^ 31) : nI a - nI (a / 8) * 8 = nI (a % 8) := n_modd (c := 8) ha (by decide) (by decide)
section LEAF
variable {E : EV} {μ : Mem}
theorem cX_isTown (x : Int32) : Rt E MX10_isTown [.int x] μ (some (.int (b2 (Rg x 0 7)))) μ := by
  refine Sp.go rfl rfl rfl (gX10_isTown_0 ?_)
  simp only [i_lt, i_le, iL, b2]
  grind
theorem cX_isText (x : Int32) : Rt E MX10_isText [.int x] μ (some (.int (b2 (Rg x 0 3)))) μ := by
  refine Sp.go rfl rfl rfl (gX10_isText_0 ?_)
  simp only [i_lt, i_le, iL, b2]
  grind
theorem cX_isWay (x : Int32) : Rt E MX10_isWay [.int x] μ (some (.int (b2 (Rg x 1 3)))) μ := by
  refine Sp.go rfl rfl rfl (gX10_isWay_0 ?_)
  simp only [i_lt, i_le, iL, b2]
  grind
theorem cX_isWayOrClean (x : Int32) : Rt E MX10_isWayOrClean [.int x] μ (some (.int (b2 (Rg x 0 3)))) μ := by
  refine Sp.go rfl rfl rfl (gX10_isWayOrClean_0 ?_)
  simp only [i_lt, i_le, iL, b2]
  grind
theorem cX_arePlaces (x : Int32) : Rt E MX10_arePlaces [.int x] μ (some (.int (b2 (Rg x 0 2047)))) μ := by
  refine Sp.go rfl rfl rfl (gX10_arePlaces_0 ?_)
  simp only [i_lt, i_le, iL, b2]
  grind
theorem cX_isSheet (x : Int32) : Rt E MX10_isSheet [.int x] μ (some (.int (b2 (Rg x 0 3)))) μ := by
  refine Sp.go rfl rfl rfl (gX10_isSheet_0 ?_)
  simp only [i_lt, i_le, iL, b2]
  grind
theorem cX_isForm (x : Int32) : Rt E MX10_isForm [.int x] μ (some (.int (b2 (Rg x 0 2)))) μ := by
  refine Sp.go rfl rfl rfl (gX10_isForm_0 ?_)
  simp only [i_lt, i_le, iL, b2]
  grind
theorem cX_areEnds (x y z w : Int32) : Rt E MX10_areEnds [.int x, .int y, .int z, .int w] μ (some (.int (b2 (Rg x 0 7 ∧ Rg y 0 3 ∧ Rg z 0 7 ∧ Rg w 0 3)))) μ := by
  refine Sp.go rfl rfl rfl (gX10_areEnds_0 ?_)
  refine Rt.i (cX_isTown x) ⟨fun h => ⟨?_, rfl⟩, fun h => ?_⟩
  · rw [b2_0] at h; rw [b2_f (fun q => h q.1)]
  refine Rt.i (cX_isWayOrClean y) ⟨fun h => ⟨?_, rfl⟩, fun h2 => ?_⟩
  · rw [b2_0] at h; rw [b2_f (fun q => h q.2.1)]
  refine Rt.i (cX_isTown z) ⟨fun h => ⟨?_, rfl⟩, fun h3 => ?_⟩
  · rw [b2_0] at h; rw [b2_f (fun q => h q.2.2.1)]
  refine Rt.i (cX_isWayOrClean w) ⟨fun h => ⟨?_, rfl⟩, fun h4 => ⟨?_, rfl⟩⟩
  · rw [b2_0] at h; rw [b2_f (fun q => h q.2.2.2)]
  · rw [b2_0, Decidable.not_not] at h h2 h3 h4
    rw [b2_t ⟨h, h2, h3, h4⟩]
theorem cX_longRefusal (x : Int32) : Rt E MX10_longRefusal [.int x] μ (some (.long ((-9223372036854775808) - x.toInt64))) μ := Sp.go rfl rfl rfl (gX10_longRefusal_0 ⟨rfl, rfl⟩)
theorem cM_in (v a b : Int64) : Rt E MX11_in [.long v, .long a, .long b] μ (some (.int (b2 (a.toInt ≤ v.toInt ∧ v.toInt ≤ b.toInt)))) μ := by
  refine Sp.go rfl rfl rfl (gX11_in_0 ?_)
  simp only [cmp_lt, cmp_gt, b2]
  grind
theorem cM_isTwo (x : Int32) : Rt E MX11_isTwo [.int x] μ (some (.int (b2 (Rg x 0 1)))) μ := by
  refine Sp.go rfl rfl rfl (gX11_isTwo_0 (Rt.i (cM_in _ _ _) ⟨b2_or, ?_, rfl⟩))
  simp only [Int32.toInt_toInt64]; rfl
theorem cM_isTown (x : Int32) : Rt E MX11_isTown [.int x] μ (some (.int (b2 (Rg x 0 7)))) μ := by
  refine Sp.go rfl rfl rfl (gX11_isTown_0 (Rt.i (cM_in _ _ _) ⟨b2_or, ?_, rfl⟩))
  simp only [Int32.toInt_toInt64]; rfl
theorem cM_isSheet (x : Int32) : Rt E MX11_isSheet [.int x] μ (some (.int (b2 (Rg x 0 3)))) μ := by
  refine Sp.go rfl rfl rfl (gX11_isSheet_0 (Rt.i (cM_in _ _ _) ⟨b2_or, ?_, rfl⟩))
  simp only [Int32.toInt_toInt64]; rfl
theorem cM_isText (x : Int32) : Rt E MX11_isText [.int x] μ (some (.int (b2 (Rg x 0 3)))) μ := by
  refine Sp.go rfl rfl rfl (gX11_isText_0 (Rt.i (cM_in _ _ _) ⟨b2_or, ?_, rfl⟩))
  simp only [Int32.toInt_toInt64]; rfl
theorem cM_isWay (x : Int32) : Rt E MX11_isWay [.int x] μ (some (.int (b2 (Rg x 1 3)))) μ := by
  refine Sp.go rfl rfl rfl (gX11_isWay_0 (Rt.i (cM_in _ _ _) ⟨b2_or, ?_, rfl⟩))
  simp only [Int32.toInt_toInt64]; rfl
theorem cM_isBegun (x : Int32) : Rt E MX11_isBegun [.ref 123, .int x] μ (some (.int (b2 (Rg x 0 3)))) μ := by
  refine Sp.go rfl rfl rfl (gX11_isBegun_0 (Rt.i (cM_in _ _ _) ⟨b2_or, ?_, rfl⟩))
  simp only [Int32.toInt_toInt64]; rfl
theorem cM_arePlaces (x : Int32) : Rt E MX11_arePlaces [.int x] μ (some (.int (b2 (Rg x 0 2047)))) μ := by
  refine Sp.go rfl rfl rfl (gX11_arePlaces_0 (Rt.i (cM_in _ _ _) ⟨b2_or, ?_, rfl⟩))
  simp only [Int32.toInt_toInt64]; rfl
theorem cM_isAsked (x y z w : Int32) : Rt E MX11_isAsked [.ref 123, .int x, .int y, .int z, .int w] μ (some (.int (b2 (Rg x 0 7 ∧ Rg y 0 3 ∧ Rg z 0 7 ∧ Rg w 0 3)))) μ := by
  refine Sp.go rfl rfl rfl (gX11_isAsked_0 ?_)
  refine Rt.i (cM_isTown x) ⟨fun h => ⟨?_, rfl⟩, fun h => ?_⟩
  · rw [b2_0] at h; rw [b2_f (fun q => h q.1)]
  refine Rt.i (cM_isBegun y) ⟨fun h => ⟨?_, rfl⟩, fun h2 => ?_⟩
  · rw [b2_0] at h; rw [b2_f (fun q => h q.2.1)]
  refine Rt.i (cM_isTown z) ⟨fun h => ⟨?_, rfl⟩, fun h3 => ?_⟩
  · rw [b2_0] at h; rw [b2_f (fun q => h q.2.2.1)]
  refine Rt.i (cM_isBegun w) ⟨fun h => ⟨?_, rfl⟩, fun h4 => ⟨?_, rfl⟩⟩
  · rw [b2_0] at h; rw [b2_f (fun q => h q.2.2.2)]
  · rw [b2_0, Decidable.not_not] at h h2 h3 h4
    rw [b2_t ⟨h, h2, h3, h4⟩]
theorem cM_no (x : Int32) : Rt E MX11_no [.int x] μ (some (.long ((-9223372036854775808) - x.toInt64))) μ := Sp.go rfl rfl rfl (gX11_no_0 ⟨rfl, rfl⟩)
theorem cM_met (x : Int32) : Rt E MX11_met [.ref 123, .int x] μ (some (.int (-10 - x))) (mI μ 123 4 x) := Sp.go rfl rfl rfl (gX11_met_0 ⟨rfl, rfl⟩)
/-- what a form keeps of an int -/
def cutI (f v : Int32) : Int32 := if f = 0 then v.toInt8.toInt32 else if f = 1 then v.toInt16.toInt32 else v
theorem cM_cut (f v : Int32) : Rt E MX11_cut [.int f, .int v] μ (some (.int (cutI f v))) μ := by
  refine Sp.go rfl rfl rfl (gX11_cut_0 ?_)
  unfold cutI
  grind
/-- where a text lies among the bytes -/
def offT (t : Nat) : Nat := if t = 0 then 0 else 20 + 30 * t
theorem cM_from {t : Nat} (ht : t < 4) : Rt E MX11_from [.int (nI t)] μ (some (.int (nI (offT t)))) μ := by
  refine Sp.go rfl rfl rfl (gX11_from_0 ?_)
  simp (disch := omega) only [n_eq0, n_cmul, n_cadd, offT]
  grind [nI_0]
/-- a letter's byte -/
def byO (l : Nat) : Nat := if l % 2 = 0 then 97 + l / 2 else 65 + l / 2
theorem cM_byteOf {l : Nat} (hl : l < 1000) : Rt E MX11_byteOf [.int (nI l)] μ (some (.int (nI (byO l)))) μ := by
  refine Sp.go rfl rfl rfl (gX11_byteOf_0 ?_)
  simp (disch := omega) only [n_mod2, n_divc, n_eq0, n_cadd, byO]
  grind
theorem cM_back {l : Nat} (hl : l < 1000) : Rt E MX11_back [.int (nI l)] μ (some (.int (nI (bk l)))) μ := by
  refine Sp.go rfl rfl rfl (gX11_back_0 ?_)
  simp (disch := omega) only [n_mod2, n_divc, n_eq0, n_addc, bk]
  refine ⟨fun h => ⟨by rw [if_neg h, show nI l - 1 = nI (l - 1) from pk_sub (b := 1) (by omega)], trivial⟩, fun h => ⟨by rw [if_pos h], trivial⟩⟩
theorem cX_byteOf {l : Nat} (hl : l < 64) : Rt E MX10_byteOf [.int (nI l)] μ (some (.int (nI (byO l)))) μ := by
  refine Sp.go rfl rfl rfl (gX10_byteOf_0 ?_)
  simp (disch := omega) only [n_eqm, half0, b_and1, n_eq0, n_cadd, byO]
  grind
theorem cX_byteOfN : Rt E MX10_byteOf [.int (-1)] μ (some (.int (-1))) μ :=
  Sp.go rfl rfl rfl (gX10_byteOf_0 ⟨fun h => absurd rfl h, fun _ => ⟨rfl, rfl⟩⟩)
theorem cM_index {a b c d : Nat} : Rt E MX11_index [.int (nI a), .int (nI b), .int (nI c), .int (nI d)] μ (some (.int (nI (((a * 8 + b) * 8 + c) * 13 + d)))) μ := by
  refine Sp.go rfl rfl rfl (gX11_index_0 ⟨?_, rfl⟩)
  simp only [n_mulc, nI_add]
theorem cP_size {o : Nat} (ho : kd o = 5) : Rt E MX5_size [.ref o] μ (some (.int (μ.1 o 1))) μ :=
  Sp.go rfl rfl rfl (gX5_size_0 ho ⟨rfl, rfl⟩)
theorem cP_empty {o : Nat} (ho : kd o = 5) : Rt E MX5_empty [.ref o] μ none (mI μ o 1 0) :=
  Sp.go rfl rfl rfl (gX5_empty_0 ho ⟨rfl, rfl⟩)
theorem cP_at {o n k : Nat} (ho : kd o = 5) (hn : μ.1 o 1 = nI n) (h60 : n ≤ 60) (hk : k < 2 ^ 31) : Rt E MX5_at [.ref o, .int (nI k)] μ (some (.int (if k < n then μ.1 (o + 1) k else -1))) μ := by
  refine Sp.go rfl rfl rfl (gX5_at_0 ho ?_)
  simp (disch := omega) only [hn, n_lt, n_le, n_lt0, n_in, nI_clamp]
  grind
theorem cT_size {o : Nat} (ho : kd o = 8) : Rt E MX8_size [.ref o] μ (some (.int (μ.1 o 2))) μ :=
  Sp.go rfl rfl rfl (gX8_size_0 ho ⟨rfl, rfl⟩)
theorem cT_at {o n k : Nat} (ho : kd o = 8) (hn : μ.1 o 2 = nI n) (h60 : n ≤ 50) (hk : k < 2 ^ 31) : Rt E MX8_at [.ref o, .int (nI k)] μ (some (.int (if k < n then μ.1 (o + 1) k else -1))) μ := by
  refine Sp.go rfl rfl rfl (gX8_at_0 ho ?_)
  simp (disch := omega) only [hn, n_lt, n_le, n_lt0, n_in, nI_clamp]
  grind
theorem cT_isFull {o n m : Nat} (ho : kd o = 8) (hn : μ.1 o 2 = nI n) (hm : μ.1 o 1 = nI m) (h1 : n < 2 ^ 31) (h2 : m < 2 ^ 31) : Rt E MX8_isFull [.ref o] μ (some (.int (b2 (m ≤ n)))) μ := by
  refine Sp.go rfl rfl rfl (gX8_isFull_0 ho ?_)
  simp (disch := omega) only [hn, hm, n_lt, b2]
  grind
theorem cT_empty {o : Nat} (ho : kd o = 8) : Rt E MX8_empty [.ref o] μ none (mI μ o 2 0) :=
  Sp.go rfl rfl rfl (gX8_empty_0 ho ⟨rfl, rfl⟩)
theorem cT_append {o n m : Nat} {b : Int32} (ho : kd o = 8) (hn : μ.1 o 2 = nI n) (hm : μ.1 o 1 = nI m) (h1 : n < m) (h2 : m ≤ 50) : Rt E MX8_append [.ref o, .int b] μ none (mI (mI μ (o + 1) n b) o 2 (nI (n + 1))) := by
  refine Sp.go rfl rfl rfl (gX8_append_0 ho ?_)
  simp (disch := omega) only [hn, hm, n_le, n_in, nI_clamp]
  refine ⟨fun h => by omega, fun _ => ⟨by omega, fun v3 e3 => ⟨trivial, ?_⟩⟩⟩
  rw [e3, mI_ne (by omega), hn, nI_1]
end LEAF
