/-! loops; filling; sheets -/
theorem lup {σ : Type} {J I : Nat → σ → Prop} (n : Nat) (hs : ∀ i s, i < n → I i s → (∀ s', I (i + 1) s' → J (i + 1) s') → J i s) (he : ∀ s, I n s → J n s) : ∀ i s, i ≤ n → I i s → J i s := by
  have key : ∀ d i s, i + d = n → I i s → J i s := by
    intro d
    induction d with
    | zero => intro i s hi h; have e : i = n := by omega
              subst e; exact he s h
    | succ d ih => intro i s hi h; exact hs i s (by omega) h (fun s' h' => ih (i + 1) s' (by omega) h')
  exact fun i s hi h => key (n - i) i s (by omega) h
/-- a stretch of ints, of longs becomes one value -/
def mFI (μ : Mem) (a lo n : Nat) (v : Int32) : Mem := (fun c k => if c = a ∧ (lo ≤ k ∧ k < lo + n) then v else μ.1 c k, μ.2)
def mFJ (μ : Mem) (a lo n : Nat) (v : Int64) : Mem := (μ.1, fun c k => if c = a ∧ (lo ≤ k ∧ k < lo + n) then v else μ.2 c k)
theorem mFI_1 {μ : Mem} {a lo n c k : Nat} {v : Int32} : (mFI μ a lo n v).1 c k = if c = a ∧ (lo ≤ k ∧ k < lo + n) then v else μ.1 c k := rfl
theorem mFI_2 {μ : Mem} {a lo n : Nat} {v : Int32} : (mFI μ a lo n v).2 = μ.2 := rfl
theorem mFJ_1 {μ : Mem} {a lo n : Nat} {v : Int64} : (mFJ μ a lo n v).1 = μ.1 := rfl
theorem mFJ_2 {μ : Mem} {a lo n c k : Nat} {v : Int64} : (mFJ μ a lo n v).2 c k = if c = a ∧ (lo ≤ k ∧ k < lo + n) then v else μ.2 c k := rfl
theorem mFI_0 {μ : Mem} {a lo : Nat} {v : Int32} : mFI μ a lo 0 v = μ := by
  refine Prod.ext ?_ rfl
  funext c k
  rw [mFI_1, if_neg (by omega)]
theorem mFJ_0 {μ : Mem} {a lo : Nat} {v : Int64} : mFJ μ a lo 0 v = μ := by
  refine Prod.ext rfl ?_
  funext c k
  rw [mFJ_2, if_neg (by omega)]
theorem mFI_s {μ : Mem} {a lo n : Nat} {v : Int32} : mI (mFI μ a lo n v) a (lo + n) v = mFI μ a lo (n + 1) v := by
  refine Prod.ext ?_ rfl
  funext c k
  rw [mI_1, mFI_1, mFI_1]
  grind
theorem mFJ_s {μ : Mem} {a lo n : Nat} {v : Int64} : mJ (mFJ μ a lo n v) a (lo + n) v = mFJ μ a lo (n + 1) v := by
  refine Prod.ext rfl ?_
  funext c k
  rw [mJ_2, mFJ_2, mFJ_2]
  grind
/-- nothing outside these places changes -/
def Fr (S : Nat → Nat → Prop) (μ ν : Mem) : Prop := ∀ o k, ¬ S o k → ν.1 o k = μ.1 o k ∧ ν.2 o k = μ.2 o k
theorem Fr.rf {S : Nat → Nat → Prop} {μ : Mem} : Fr S μ μ := fun _ _ _ => ⟨rfl, rfl⟩
theorem Fr.tr {S : Nat → Nat → Prop} {μ ν ξ : Mem} (h : Fr S μ ν) (h2 : Fr S ν ξ) : Fr S μ ξ := fun o k q => ⟨(h2 o k q).1.trans (h o k q).1, (h2 o k q).2.trans (h o k q).2⟩
theorem Fr.up {S T : Nat → Nat → Prop} {μ ν : Mem} (h : Fr S μ ν) (hs : ∀ o k, S o k → T o k) : Fr T μ ν := fun o k q => h o k (fun z => q (hs o k z))
theorem Fr.I {S : Nat → Nat → Prop} {μ : Mem} {o k : Nat} {x : Int32} (h : S o k) : Fr S μ (mI μ o k x) := fun a b q => ⟨by rw [mI_1, if_neg (fun z => q (by rw [z.1, z.2]; exact h))], rfl⟩
theorem Fr.J {S : Nat → Nat → Prop} {μ : Mem} {o k : Nat} {x : Int64} (h : S o k) : Fr S μ (mJ μ o k x) := fun a b q => ⟨rfl, by rw [mJ_2, if_neg (fun z => q (by rw [z.1, z.2]; exact h))]⟩
theorem Fr.FI {S : Nat → Nat → Prop} {μ : Mem} {o lo n : Nat} {x : Int32} (h : ∀ k, lo ≤ k → k < lo + n → S o k) : Fr S μ (mFI μ o lo n x) := fun a b q => ⟨by rw [mFI_1, if_neg (fun z => q (by rw [z.1]; exact h b z.2.1 z.2.2))], rfl⟩
theorem Fr.FJ {S : Nat → Nat → Prop} {μ : Mem} {o lo n : Nat} {x : Int64} (h : ∀ k, lo ≤ k → k < lo + n → S o k) : Fr S μ (mFJ μ o lo n x) := fun a b q => ⟨rfl, by rw [mFJ_2, if_neg (fun z => q (by rw [z.1]; exact h b z.2.1 z.2.2))]⟩
/-- both sides run one after the other: one answer, and then P -/
def Op (E : EV) (MC MM : MT) (as : List Value) (μ : Mem) (P : Mem → Prop) : Prop := Sp E MC (.ref 0 :: as) μ (fun v ν => ∃ r : Int32, v = some (.int r) ∧ Sp E MM (.ref 123 :: as) ν (fun v' ξ => v' = some (.int r) ∧ P ξ))
def OpL (E : EV) (MC MM : MT) (as : List Value) (μ : Mem) (P : Mem → Prop) : Prop := Sp E MC (.ref 0 :: as) μ (fun v ν => ∃ r : Int64, v = some (.long r) ∧ Sp E MM (.ref 123 :: as) ν (fun v' ξ => v' = some (.long r) ∧ P ξ))
section SHEETS
variable {E : EV} {μ : Mem}
theorem cJ_fill {a n : Nat} {v : Int32} (ha : kd a = 20) (hn : ln a = n) (h31 : n < 2 ^ 31) : Rt E MJ7_fill_53178 [.ref a, .int v] μ none (mFI μ a 0 n v) := by
  refine Sp.go rfl rfl rfl (gJ7_fill_53178_0 ha hn (fun v1 e1 => ?_))
  subst e1
  refine lup (σ := Mem) (J := fun i μ' => Ex E MJ7_fill_53178 (fun v' ν' => v' = none ∧ ν' = mFI μ a 0 n v) 5 [(0, .ref a), (1, .int v), (2, .int (nI i)), (3, .int (nI n))] [] μ') (I := fun i μ' => μ' = mFI μ a 0 i v) n ?_ ?_ 0 μ (Nat.zero_le _) mFI_0.symm
  · intro i s hi hs ih
    refine gJ7_fill_53178_5 ha hn ?_
    simp (disch := omega) only [n_le, n_in, nI_clamp]
    refine ⟨fun q => by omega, fun _ => ⟨hi, fun v3 e3 => ?_⟩⟩
    rw [e3, nI_1]
    refine ih _ ?_
    rw [hs, ← mFI_s, Nat.zero_add]
  · intro s hs
    refine gJ7_fill_53178_5 ha hn ?_
    simp (disch := omega) only [n_le, n_in, nI_clamp]
    exact ⟨fun _ => ⟨trivial, hs⟩, fun q => absurd (Nat.le_refl n) q⟩
theorem cJ_fillL {a n : Nat} {v : Int64} (ha : kd a = 21) (hn : ln a = n) (h31 : n < 2 ^ 31) : Rt E MJ7_fill_d0a16 [.ref a, .long v] μ none (mFJ μ a 0 n v) := by
  refine Sp.go rfl rfl rfl (gJ7_fill_d0a16_0 ha hn (fun v1 e1 => ?_))
  subst e1
  refine lup (σ := Mem) (J := fun i μ' => Ex E MJ7_fill_d0a16 (fun v' ν' => v' = none ∧ ν' = mFJ μ a 0 n v) 6 [(0, .ref a), (1, .long v), (3, .int (nI i)), (4, .int (nI n))] [] μ') (I := fun i μ' => μ' = mFJ μ a 0 i v) n ?_ ?_ 0 μ (Nat.zero_le _) mFJ_0.symm
  · intro i s hi hs ih
    refine gJ7_fill_d0a16_6 ha hn ?_
    simp (disch := omega) only [n_le, n_in, nI_clamp]
    refine ⟨fun q => by omega, fun _ => ⟨hi, fun v3 e3 => ?_⟩⟩
    rw [e3, nI_1]
    refine ih _ ?_
    rw [hs, ← mFJ_s, Nat.zero_add]
  · intro s hs
    refine gJ7_fill_d0a16_6 ha hn ?_
    simp (disch := omega) only [n_le, n_in, nI_clamp]
    exact ⟨fun _ => ⟨trivial, hs⟩, fun q => absurd (Nat.le_refl n) q⟩
/-- the sheets of both sides -/
def RSl (μ : Mem) : Prop := ∀ s, s < 4 → μ.1 114 s = μ.1 124 s ∧ (μ.1 114 s = -1 ∨ ((μ.1 114 s = 0 ∨ μ.1 114 s = 1 ∨ μ.1 114 s = 2) ∧ ∃ n, n ≤ 60 ∧ μ.1 113 s = nI n ∧ μ.1 125 s = nI n ∧ ∀ i, i < n → μ.1 (109 + s) i = μ.1 126 (60 * s + i)))
def RS (μ : Mem) : Prop := μ.1 107 3 = μ.1 123 4 ∧ RSl μ
theorem RS.keep {ν : Mem} {s : Nat} (h : RS μ) (hs : s < 4) (h1 : ν.1 114 s = μ.1 114 s) (h2 : ν.1 124 s = μ.1 124 s) (h3 : ν.1 113 s = μ.1 113 s) (h4 : ν.1 125 s = μ.1 125 s) (h5 : ∀ i, i < 60 → ν.1 (109 + s) i = μ.1 (109 + s) i) (h6 : ∀ i, i < 60 → ν.1 126 (60 * s + i) = μ.1 126 (60 * s + i)) :
    ν.1 114 s = ν.1 124 s ∧ (ν.1 114 s = -1 ∨ ((ν.1 114 s = 0 ∨ ν.1 114 s = 1 ∨ ν.1 114 s = 2) ∧ ∃ n, n ≤ 60 ∧ ν.1 113 s = nI n ∧ ν.1 125 s = nI n ∧ ∀ i, i < n → ν.1 (109 + s) i = ν.1 126 (60 * s + i))) := by
  rw [h1, h2, h3, h4]
  obtain ⟨q1, q2⟩ := h.2 s hs
  refine ⟨q1, q2.imp id (fun ⟨q3, n, q4, q5, q6, q7⟩ => ⟨q3, n, q4, q5, q6, fun i hi => ?_⟩)⟩
  rw [h5 i (by omega), h6 i (by omega)]
  exact q7 i hi
def SS (o k : Nat) : Prop := (107 ≤ o ∧ o ≤ 114) ∨ (124 ≤ o ∧ o ≤ 127) ∨ (o = 123 ∧ k = 4)
theorem RS_met (h : RS μ) (c : Int32) : RS (mI (mI μ 107 3 c) 123 4 c) ∧ Fr SS μ (mI (mI μ 107 3 c) 123 4 c) := by
  refine ⟨⟨?_, fun s hs => ?_⟩, Fr.tr (Fr.I (by unfold SS; omega)) (Fr.I (by unfold SS; omega))⟩
  · simp [mI_1]
  · have := h.2 s hs
    simpa [mI_1, show 109 + s ≠ 123 by omega, show 109 + s ≠ 107 by omega] using this
theorem cS_find (x : Int32) : Rt E MX7_find [.ref 107, .int x] μ (some (.int (-10 - x))) (mI μ 107 3 x) := Sp.go rfl rfl rfl (gX7_find_0 ⟨rfl, rfl⟩)
theorem cS_isLost {s : Nat} (hs : s < 4) : Rt E MX7_isLost [.ref 107, .int (nI s)] μ (some (.int (b2 (μ.1 114 s = -1)))) μ := by
  refine Sp.go rfl rfl rfl (gX7_isLost_0 ?_)
  simp (disch := omega) only [n_in, nI_clamp, b2]
  grind
theorem cS_size {s : Nat} (hs : s < 4) : Rt E MX7_size [.ref 107, .int (nI s)] μ (some (.int (μ.1 113 s))) μ := by
  refine Sp.go rfl rfl rfl (gX7_size_0 ?_)
  simp (disch := omega) only [n_in, nI_clamp]
  grind
theorem cS_make {s : Nat} (hs : s < 4) (f n : Int32) : Rt E MX7_make [.ref 107, .int (nI s), .int f, .int n] μ none (mFI (mI (mI μ 114 s f) 113 s n) (109 + s) 0 60 0) := by
  refine Sp.go rfl rfl rfl (gX7_make_0 ?_)
  simp (disch := omega) only [n_in, nI_clamp]
  exact ⟨hs, Rt.v (cJ_fill (sSh0 s hs).1 (sSh0 s hs).2 (by decide)) ⟨trivial, rfl⟩⟩
theorem cS_drop {s : Nat} (hs : s < 4) : Rt E MX7_drop [.ref 107, .int (nI s)] μ none (mI (mI μ 114 s (-1)) 113 s 0) := by
  refine Sp.go rfl rfl rfl (gX7_drop_0 ?_)
  simp (disch := omega) only [n_in, nI_clamp]
  exact ⟨hs, trivial, trivial⟩
theorem op_sheet (h : RS μ) (x y z : Int32) : Op E MX10_sheet MX11_sheet [.int x, .int y, .int z] μ (fun ν => RS ν ∧ Fr SS μ ν) := by
  refine Sp.go rfl rfl rfl (gX10_sheet_0 ?_)
  refine Rt.i (cX_isSheet x) ⟨fun c1 => ⟨-2, rfl, ?_⟩, fun c1 => ?_⟩
  · exact Sp.go rfl rfl rfl (gX11_sheet_0 (Rt.i (cM_isSheet x) ⟨fun _ => ⟨rfl, h, Fr.rf⟩, fun c => absurd c1 c⟩))
  have in2 : ∀ ν : Mem, Rt E MX11_in [.long (Int32.toInt64 y), .long 0, .long 2] ν (some (.int (b2 (Rg y 0 2)))) ν := fun ν => by
    have := cM_in (E := E) (μ := ν) (Int32.toInt64 y) 0 2
    simp only [Int32.toInt_toInt64] at this
    exact this
  refine Rt.i (cX_isForm y) ⟨fun c2 => ⟨-2, rfl, ?_⟩, fun c2 => ⟨fun c3 => ⟨fun c4 => ?_, fun c4 => ?_⟩, fun c3 => ⟨-2, rfl, ?_⟩⟩⟩
  · exact Sp.go rfl rfl rfl (gX11_sheet_0 (Rt.i (cM_isSheet x) ⟨fun c => absurd c c1, fun _ => Rt.i (in2 _) ⟨fun _ => ⟨rfl, h, Fr.rf⟩, fun c => absurd c2 c⟩⟩))
  · rw [b2_0, Decidable.not_not] at c1 c2
    obtain ⟨s, hs, rfl⟩ := Rg.nat (b := 3) c1
    obtain ⟨n, hn, rfl⟩ := Rg.nat (x := z) (b := 60) ⟨by rw [i_le] at c4; exact c4, by rw [i_le] at c3; exact c3⟩
    refine Rt.v (cS_make (by omega) y (nI n)) ⟨nI n, rfl, ?_⟩
    refine Sp.go rfl rfl rfl (gX11_sheet_0 (Rt.i (cM_isSheet _) ⟨fun c => absurd c1 (by rw [b2_0] at c; exact c), fun _ => Rt.i (in2 _) ⟨fun c => absurd c2 (by rw [b2_0] at c; exact c), fun _ => ⟨fun _ => ⟨fun _ => ?_, fun c => absurd c4 c⟩, fun c => absurd c3 c⟩⟩⟩))
    simp (disch := omega) only [n_in, nI_clamp]
    refine ⟨by omega, ?_⟩
    generalize hν : mI (mI (mFI (mI (mI μ 114 s y) 113 s (nI n)) (109 + s) 0 60 0) 124 s y) 125 s (nI n) = ν
    refine lup (σ := Mem) (J := fun i μ' => Ex E MX11_sheet _ 55 [(0, .ref 123), (1, .int (nI s)), (2, .int y), (3, .int (nI n)), (4, .int (nI i))] [] μ') (I := fun i μ' => μ' = mFI ν 126 (60 * s) i 0) n ?_ ?_ 0 ν (Nat.zero_le _) mFI_0.symm
    · intro i t hi ht ih
      refine gX11_sheet_55 ?_
      simp (disch := omega) only [n_le, n_in, nI_clamp, n_cmul, nI_add]
      refine ⟨fun q => by omega, fun _ => ⟨by omega, fun v3 e3 => ?_⟩⟩
      rw [e3, nI_1]
      refine ih _ ?_
      rw [ht, mFI_s]
    · intro t ht
      refine gX11_sheet_55 ?_
      simp (disch := omega) only [n_le, n_in, nI_clamp, n_cmul, nI_add]
      refine ⟨fun _ => ⟨trivial, ?_⟩, fun q => absurd (Nat.le_refl n) q⟩
      subst ht hν
      have hy : y = 0 ∨ y = 1 ∨ y = 2 := by
        obtain ⟨k, hk, rfl⟩ := Rg.nat (x := y) (b := 2) c2
        rcases (show k = 0 ∨ k = 1 ∨ k = 2 by omega) with rfl | rfl | rfl <;> decide
      constructor
      · refine ⟨?_, fun q hq => ?_⟩
        · have := h.1
          simp only [mI_1, mFI_1]
          grind
        · have := h.2 q hq
          by_cases e : q = s
          · subst e
            simp only [mI_1, mFI_1]
            refine ⟨by grind, Or.inr ⟨by grind, n, hn, by grind, by grind, fun i hi => by grind⟩⟩
          · have e2 : ¬ 109 + q = 109 + s := by omega
            refine h.keep hq ?_ ?_ ?_ ?_ (fun i hi => ?_) (fun i hi => ?_) <;> simp only [mI_1, mFI_1] <;> grind
      · refine Fr.tr (Fr.tr (Fr.tr (Fr.tr (Fr.tr (Fr.I ?_) (Fr.I ?_)) (Fr.FI ?_)) (Fr.I ?_)) (Fr.I ?_)) (Fr.FI ?_) <;> simp [SS] <;> omega
  · refine Rt.i (cS_find 5) ⟨_, rfl, ?_⟩
    refine Sp.go rfl rfl rfl (gX11_sheet_0 (Rt.i (cM_isSheet _) ⟨fun c => absurd c c1, fun _ => Rt.i (in2 _) ⟨fun c => absurd c c2, fun _ => ⟨fun _ => ⟨fun c => absurd c c4, fun _ => ?_⟩, fun c => absurd c3 c⟩⟩⟩))
    exact Rt.i (cM_met 5) ⟨rfl, RS_met h 5⟩
  · exact Sp.go rfl rfl rfl (gX11_sheet_0 (Rt.i (cM_isSheet x) ⟨fun c => absurd c c1, fun _ => Rt.i (in2 _) ⟨fun c => absurd c c2, fun _ => ⟨fun c => absurd c c3, fun _ => ⟨rfl, h, Fr.rf⟩⟩⟩⟩))
end SHEETS
