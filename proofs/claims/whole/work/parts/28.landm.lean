/-- the land that the reference knows behind readsLand -/
def ML (μ : Mem) (L : LD) : Prop := L.1 ≤ 9 ∧ 1 ≤ L.2.2.2.2 ∧ L.2.2.2.2 ≤ 11 ∧ μ.1 123 8 = nI L.1 ∧ μ.1 123 12 = nI L.2.2.2.2 ∧ ∀ k, k < L.1 → L.2.1 k < 8 ∧ L.2.2.1 k < 8 ∧ μ.1 130 k = nI (L.2.1 k) ∧ μ.1 131 k = nI (L.2.2.1 k) ∧ μ.1 132 k = if L.2.2.2.1 k then 1 else 0
def SM (o k : Nat) : Prop := (o = 123 ∧ (k = 7 ∨ k = 8 ∨ k = 12)) ∨ o = 130 ∨ o = 131 ∨ o = 132
section MLAND
variable {E : EV} {μ : Mem} {n : Nat} {b : Nat → Nat}
theorem ML.fr {ν : Mem} {L : LD} (h : ML μ L) (f1 : ν.1 123 8 = μ.1 123 8) (f2 : ν.1 123 12 = μ.1 123 12) (f3 : ν.1 130 = μ.1 130) (f4 : ν.1 131 = μ.1 131) (f5 : ν.1 132 = μ.1 132) : ML ν L := by
  obtain ⟨h1, h2, h3, h4, h5, h6⟩ := h
  exact ⟨h1, h2, h3, by rw [f1, h4], by rw [f2, h5], fun k hk => by rw [f3, f4, f5]; exact h6 k hk⟩
theorem TM.fr {ν : Mem} {t : Nat} (h : TM μ t n b) (hf : Fr SM μ ν) : TM ν t n b := by
  refine ⟨?_, fun k hk => ?_⟩
  · rw [(hf _ _ (by unfold SM; omega)).1]; exact h.1
  · rw [(hf _ _ (by unfold SM; omega)).1]; exact h.2 k hk
theorem cM_here (hT : TM μ 0 n b) (hn : n ≤ 50) {a : Nat} (ha : a < 2000) (h7 : μ.1 123 7 = nI a) : Rt E MX11_here [.ref 123] μ (some (.int (tI n b a))) μ := by
  refine Sp.go rfl rfl rfl (gX11_here_0 ?_)
  rw [h7, hT.1]
  simp (disch := omega) only [n_le, n_in, nI_clamp]
  refine ⟨fun q => ⟨?_, trivial⟩, fun q => ⟨by omega, ?_, trivial⟩⟩
  · unfold tI; rw [if_neg (by omega)]
  · have := hT.2 a (by omega)
    rw [show offT 0 + a = a by simp [offT]] at this
    unfold tI
    rw [if_pos (by omega), this]
theorem cM_inL (x : Int32) (lo hi : Int64) : Rt E MX11_in [.long (Int32.toInt64 x), .long lo, .long hi] μ (some (.int (b2 (lo.toInt ≤ x.toInt ∧ x.toInt ≤ hi.toInt)))) μ := by
  have := cM_in (E := E) (μ := μ) (Int32.toInt64 x) lo hi
  simp only [Int32.toInt_toInt64] at this
  exact this
theorem cM_clears : Rt E MX11_clears [.ref 123] μ none (mI (mI μ 123 8 0) 123 12 11) := Sp.go rfl rfl rfl (gX11_clears_0 ⟨rfl, rfl⟩)
theorem ML_clears : ML (mI (mI μ 123 8 0) 123 12 11) L0 := ⟨by decide, by decide, by decide, rfl, rfl, fun k hk => absurd hk (Nat.not_lt_zero k)⟩
theorem Fr_clears : Fr SM μ (mI (mI μ 123 8 0) 123 12 11) := Fr.tr (Fr.I (by unfold SM; omega)) (Fr.I (by unfold SM; omega))
theorem cM_readsRoom {L : LD} (hT : TM μ 0 n b) (hb : ∀ k, k < n → b k < 256) (hn : n ≤ 50) (hC : ML μ L) {a : Nat} (ha : a < 1000) (h7 : μ.1 123 7 = nI a) :
    Sp E MX11_readsRoom [.ref 123] μ (fun v m => ∃ r, v = some (.int r) ∧ (r = b2 ((pRoom n b a L).2.1 = true) ∧ m.1 123 7 = nI (pRoom n b a L).1 ∧ ML m (pRoom n b a L).2.2 ∧ Fr SM μ m)) := by
  refine Sp.go rfl rfl rfl (gX11_readsRoom_0 (fun v1 e1 v2 e2 => ?_))
  rw [h7, nI_1] at e1
  subst e1
  have e2' : v2 = nI (a + 1) := by rw [e2]; simp [mI_1]
  subst e2'
  clear e2
  -- the end: a number w is told, the place is p
  have fin : ∀ (m : Mem) (w p : Nat), w < 200 → a + 1 < p → p ≤ a + 3 → w = pNum n b a → isFg (tA n b (a + 1)) → p = (if isFg (tA n b (a + 2)) then a + 3 else a + 2) → m.1 123 7 = nI p → ML m L → Fr SM μ m →
      (((m.1 123 7) ≤ nI (a + 1) → ∃ r, some (Value.int 0) = some (.int r) ∧ (r = b2 ((pRoom n b a L).2.1 = true) ∧ (mI m 123 7 (nI (a + 1))).1 123 7 = nI (pRoom n b a L).1 ∧ ML (mI m 123 7 (nI (a + 1))) (pRoom n b a L).2.2 ∧ Fr SM μ (mI m 123 7 (nI (a + 1))))) ∧ (¬ (m.1 123 7) ≤ nI (a + 1) → Sp E MX11_in [.long (Int32.toInt64 (nI w)), .long 1, .long 11] m (fun v m3 => ∃ r4 : Int32, v = some (.int r4) ∧ ((r4 = 0 → ∃ r, some (Value.int 0) = some (.int r) ∧ (r = b2 ((pRoom n b a L).2.1 = true) ∧ (mI m3 123 7 (nI (a + 1))).1 123 7 = nI (pRoom n b a L).1 ∧ ML (mI m3 123 7 (nI (a + 1))) (pRoom n b a L).2.2 ∧ Fr SM μ (mI m3 123 7 (nI (a + 1))))) ∧ (¬ r4 = 0 → ∃ r, some (Value.int 1) = some (.int r) ∧ (r = b2 ((pRoom n b a L).2.1 = true) ∧ (mI m3 123 12 (nI w)).1 123 7 = nI (pRoom n b a L).1 ∧ ML (mI m3 123 12 (nI w)) (pRoom n b a L).2.2 ∧ Fr SM μ (mI m3 123 12 (nI w)))))))) := by
    intro m w p hw hp1 hp2 hwn c1 hp h7 hC hf
    rw [h7]
    simp (disch := omega) only [n_le]
    refine ⟨fun q => by omega, fun _ => Rt.i (cM_inL _ _ _) ?_⟩
    rw [nI_toInt (by omega), show (1 : Int64).toInt = 1 by decide, show (11 : Int64).toInt = 11 by decide]
    refine ⟨fun q => ⟨_, rfl, ?_⟩, fun q => ⟨_, rfl, ?_⟩⟩
    · rw [b2_0] at q
      rw [pRoom_b2 c1 (by omega)]
      exact ⟨by simp [b2], by simp [mI_1], hC.fr rfl rfl rfl rfl rfl, Fr.tr hf (Fr.I (by unfold SM; omega))⟩
    · rw [b2_0, Decidable.not_not] at q
      rw [pRoom_g c1 (by omega)]
      obtain ⟨h1, h2, h3, h4, h5, h6⟩ := hC
      refine ⟨by simp [b2], ?_, ⟨h1, by dsimp only; omega, by dsimp only; omega, h4, by simp [mI_1, hwn], h6⟩, Fr.tr hf (Fr.I (by unfold SM; omega))⟩
      dsimp only
      rw [← hp]
      exact h7
  have zz : (48 : Int64).toInt = 48 ∧ (57 : Int64).toInt = 57 := by decide
  -- the first figure
  refine gX11_readsRoom_17 ?_
  have k1 : (mI μ 123 7 (nI (a + 1))).1 123 7 = nI (a + 1) := by simp [mI_1]
  have fr1 : Fr SM μ (mI μ 123 7 (nI (a + 1))) := Fr.I (by unfold SM; omega)
  rw [k1]
  simp (disch := omega) only [n_addc, n_le]
  refine ⟨fun q => by omega, fun _ => Rt.i (cM_here (hT.fr fr1) hn (by omega) k1) (Rt.i (cM_inL _ _ _) ?_)⟩
  rw [tI_toInt hb, zz.1, zz.2, k1]
  refine ⟨fun c1 => ?_, fun c1 => ?_⟩
  · rw [b2_0] at c1
    simp (disch := omega) only [n_le]
    refine ⟨fun _ => ⟨_, rfl, ?_⟩, fun q => absurd (Nat.le_refl _) q⟩
    rw [pRoom_b1 c1]
    exact ⟨by simp [b2], by simp [mI_1], hC.fr rfl rfl rfl rfl rfl, Fr.tr fr1 (Fr.I (by unfold SM; omega))⟩
  rw [b2_0, Decidable.not_not] at c1
  obtain ⟨d1, d2, d3⟩ := tI_48 hb c1
  refine Rt.i (cM_here (hT.fr fr1) hn (by omega) k1) (fun v17 e17 v18 e18 => ?_)
  rw [k1, nI_1] at e18
  have e17' : v17 = nI (b (a + 1) - 48) := by
    rw [e17, ← d1]
    congr 1
    simp
  subst e17' e18
  clear e17
  -- the second
  refine gX11_readsRoom_17 ?_
  generalize hν : mI (mI μ 123 7 (nI (a + 1))) 123 7 (nI (a + 1 + 1)) = ν
  have k2 : ν.1 123 7 = nI (a + 2) := by rw [← hν]; simp [mI_1]
  have fr2 : Fr SM μ ν := by rw [← hν]; exact Fr.tr fr1 (Fr.I (by unfold SM; omega))
  have ml2 : ML ν L := by rw [← hν]; exact hC.fr rfl rfl rfl rfl rfl
  rw [k2]
  simp (disch := omega) only [n_addc, n_le]
  refine ⟨fun q => by omega, fun _ => Rt.i (cM_here (hT.fr fr2) hn (by omega) k2) (Rt.i (cM_inL _ _ _) ?_)⟩
  rw [tI_toInt hb, zz.1, zz.2]
  refine ⟨fun c2 => ?_, fun c2 => ?_⟩
  · rw [b2_0] at c2
    exact fin ν _ (a + 2) (by omega) (by omega) (by omega) (by unfold pNum; rw [if_neg c2]) c1 (by rw [if_neg c2]) k2 ml2 fr2
  rw [b2_0, Decidable.not_not] at c2
  obtain ⟨f1, f2, f3⟩ := tI_48 hb c2
  have e1 : tI n b (a + 2) = nI (b (a + 2)) := by
    unfold tI
    rw [if_pos (tA_lt (n := n) (b := b) (i := a + 2) (by omega)).1]
  refine Rt.i (cM_here (hT.fr fr2) hn (by omega) k2) (fun v17 e17 v18 e18 => ?_)
  rw [k2, nI_1] at e18
  have e17' : v17 = nI (10 * (b (a + 1) - 48) + (b (a + 2) - 48)) := by
    rw [e17, e1, n_cmul, nI_add, show nI (10 * (b (a + 1) - 48) + b (a + 2)) - 48 = nI (10 * (b (a + 1) - 48) + b (a + 2) - 48) from pk_sub (b := 48) (by omega)]
    congr 1
    omega
  subst e17' e18
  clear e17
  refine gX11_readsRoom_17 ?_
  have k3 : (mI ν 123 7 (nI (a + 2 + 1))).1 123 7 = nI (a + 3) := by simp [mI_1]
  refine ⟨fun _ => ?_, fun q => absurd (by rw [k3]; simp (disch := omega) only [n_addc, n_le]; omega) q⟩
  exact fin _ _ (a + 3) (by omega) (by omega) (by omega) (by unfold pNum; rw [if_pos c2]) c1 (by rw [if_pos c2]) k3 (ml2.fr rfl rfl rfl rfl rfl) (Fr.tr fr2 (Fr.I (by unfold SM; omega)))
end MLAND
