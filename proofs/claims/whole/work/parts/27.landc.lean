section CLAND2
variable {E : EV} {μ : Mem} {n : Nat} {b : Nat → Nat}
/-- a part's end, or its fault turned about -/
def pv (r : Nat × Bool × LD) : Int32 := if r.2.1 = true then nI r.1 else nI r.1 ^^^ (-1)
theorem tI_48 (hb : ∀ k, k < n → b k < 256) {a : Nat} (h : isFg (tA n b a)) : tI n b a - 48 = nI (b a - 48) ∧ b a - 48 < 10 ∧ 48 ≤ b a := by
  obtain ⟨h1, h2⟩ := tA_lt (n := n) (b := b) (i := a) (by omega)
  unfold tI
  rw [if_pos h1]
  have h3 : 48 ≤ b a := by omega
  exact ⟨pk_sub (b := 48) h3, by omega, h3⟩
theorem tI_eq (hb : ∀ k, k < n → b k < 256) (a : Nat) {c : Int32} {d : Int} (hc : c.toInt = d) : (tI n b a = c) = (tA n b a = d) := by
  rw [i_eq, tI_toInt hb, hc]
theorem wb_s (g : Nat) (w : Nat → Bool) : wb (g + 1) w = if w g then wb g w ||| 2 ^ g else wb g w := rfl
theorem pRoom_b1 {a : Nat} {L : LD} (h : ¬ isFg (tA n b (a + 1))) : pRoom n b a L = (a + 1, false, L) := if_pos h
theorem pRoom_b2 {a : Nat} {L : LD} (h : isFg (tA n b (a + 1))) (h2 : pNum n b a < 1 ∨ 11 < pNum n b a) : pRoom n b a L = (a + 1, false, L) := by
  unfold pRoom
  rw [if_neg (not_not_intro h), if_pos h2]
theorem pRoom_g {a : Nat} {L : LD} (h : isFg (tA n b (a + 1))) (h2 : ¬ (pNum n b a < 1 ∨ 11 < pNum n b a)) : pRoom n b a L = (if isFg (tA n b (a + 2)) then a + 3 else a + 2, true, (L.1, L.2.1, L.2.2.1, L.2.2.2.1, pNum n b a)) := by
  unfold pRoom
  rw [if_neg (not_not_intro h), if_neg h2]
theorem pGate_b1 {a : Nat} {L : LD} (h : ¬ isTb (tA n b a) ∨ 9 ≤ L.1) : pGate n b a L = (a, false, L) := if_pos h
theorem pGate_b2 {a : Nat} {L : LD} (h : ¬ (¬ isTb (tA n b a) ∨ 9 ≤ L.1)) (h2 : ¬ isTb (tA n b (a + 1))) : pGate n b a L = (a + 1, false, L) := by
  unfold pGate
  rw [if_neg h, if_pos h2]
theorem pGate_g {a : Nat} {L : LD} (h : ¬ (¬ isTb (tA n b a) ∨ 9 ≤ L.1)) (h2 : isTb (tA n b (a + 1))) : pGate n b a L = (if tA n b (a + 2) = 117 then a + 3 else a + 2, true, (L.1 + 1, up L.2.1 L.1 (b a - 48), up L.2.2.1 L.1 (b (a + 1) - 48), up L.2.2.2.1 L.1 (decide (¬ tA n b (a + 2) = 117)), L.2.2.2.2)) := by
  unfold pGate
  rw [if_neg h, if_neg (not_not_intro h2)]
theorem cL_takeRoom {L : LD} (hT : TC μ 0 n b) (hb : ∀ k, k < n → b k < 256) (hn : n ≤ 50) (hC : CL μ L) {a : Nat} (ha : a < 1000) :
    Sp E MX3_takeRoom [.ref 1, .ref 115, .int (nI a)] μ (fun v m => ∃ r, v = some (.int r) ∧ (r = pv (pRoom n b a L) ∧ CL m (pRoom n b a L).2.2 ∧ Fr SL μ m)) := by
  have at_ : ∀ (ν : Mem), TC ν 0 n b → ∀ i : Nat, i < 2000 → Rt E MX8_at [.ref 115, .int (nI i)] ν (some (.int (tI n b i))) ν := fun ν hν i hi => cT_atT (t := 0) (by decide) hν hn (by omega)
  refine Sp.go rfl rfl rfl (gX3_takeRoom_0 (by decide) ?_)
  simp only [n_addc]
  refine Rt.i (at_ μ hT (a + 1) (by omega)) (Rt.i (at_ μ hT (a + 2) (by omega)) (Rt.i (cL_isFigure _) ?_))
  rw [tI_toInt hb]
  refine ⟨fun c1 => ?_, fun c1 => ⟨_, rfl, ?_, ?_, Fr.rf⟩⟩
  rotate_left
  · rw [b2_0] at c1
    rw [pRoom_b1 c1]
    rfl
  · rw [b2_0] at c1
    rw [pRoom_b1 c1]
    exact hC
  rw [b2_0, Decidable.not_not] at c1
  obtain ⟨d1, d2, d3⟩ := tI_48 hb c1
  have fin : ∀ (m : Mem) (v : Int32), v = nI (pNum n b a) → m = μ → pNum n b a < 100 →
      ((v < 1 → ∃ r, some (Value.int (nI (a + 1) ^^^ (-1))) = some (Value.int r) ∧ (r = pv (pRoom n b a L) ∧ CL m (pRoom n b a L).2.2 ∧ Fr SL μ m)) ∧ (¬ v < 1 → ((v ≤ 11 → Sp E MX3_isFigure [.int (tI n b (a + 2))] (mI m 1 4 v) (fun v m14 => ∃ r15 : Int32, v = some (.int r15) ∧ ((r15 = 0 → ∃ r, some (Value.int (nI (a + 2))) = some (Value.int r) ∧ (r = pv (pRoom n b a L) ∧ CL m14 (pRoom n b a L).2.2 ∧ Fr SL μ m14)) ∧ (¬ r15 = 0 → ∃ r, some (Value.int (nI (a + 3))) = some (Value.int r) ∧ (r = pv (pRoom n b a L) ∧ CL m14 (pRoom n b a L).2.2 ∧ Fr SL μ m14))))) ∧ (¬ v ≤ 11 → ∃ r, some (Value.int (nI (a + 1) ^^^ (-1))) = some (Value.int r) ∧ (r = pv (pRoom n b a L) ∧ CL m (pRoom n b a L).2.2 ∧ Fr SL μ m))))) := by
    rintro m v rfl rfl hp
    simp (disch := omega) only [n_ltc, n_lec]
    have bad : pNum n b a < 1 ∨ 11 < pNum n b a → ∃ r, some (Value.int (nI (a + 1) ^^^ (-1))) = some (Value.int r) ∧ (r = pv (pRoom n b a L) ∧ CL m (pRoom n b a L).2.2 ∧ Fr SL m m) := by
      intro q
      refine ⟨_, rfl, ?_, ?_, Fr.rf⟩
      · rw [pRoom_b2 c1 q]
        rfl
      · rw [pRoom_b2 c1 q]
        exact hC
    refine ⟨fun q => bad (Or.inl q), fun q => ⟨fun q2 => ?_, fun q2 => bad (Or.inr (by omega))⟩⟩
    have e := pRoom_g (L := L) c1 (show ¬ (pNum n b a < 1 ∨ 11 < pNum n b a) by omega)
    have hcl : CL (mI m 1 4 (nI (pNum n b a))) (pRoom n b a L).2.2 := by
      rw [e]
      obtain ⟨h1, h2, h3, h4, h5, h6, h7⟩ := hC
      exact ⟨h1, by dsimp only; omega, by dsimp only; omega, h4, h5, by simp [mI_1], h7⟩
    refine Rt.i (cL_isFigure _) ⟨fun q3 => ⟨_, rfl, ?_, hcl, Fr.I (Or.inl ⟨rfl, by decide, by decide⟩)⟩, fun q3 => ⟨_, rfl, ?_, hcl, Fr.I (Or.inl ⟨rfl, by decide, by decide⟩)⟩⟩
    · rw [b2_0, tI_toInt hb] at q3
      rw [e]
      unfold pv
      rw [if_pos rfl, if_neg q3]
    · rw [b2_0, tI_toInt hb, Decidable.not_not] at q3
      rw [e]
      unfold pv
      rw [if_pos rfl, if_pos q3]
  refine Rt.i (cL_isFigure _) ?_
  rw [tI_toInt hb]
  refine ⟨fun c2 v e => ?_, fun c2 v e => ?_⟩
  · rw [b2_0] at c2
    have e0 : pNum n b a = b (a + 1) - 48 := by unfold pNum; rw [if_neg c2]
    exact fin μ v (by rw [e, d1, e0]) rfl (by omega)
  · rw [b2_0, Decidable.not_not] at c2
    obtain ⟨f1, f2, f3⟩ := tI_48 hb c2
    have e0 : pNum n b a = 10 * (b (a + 1) - 48) + (b (a + 2) - 48) := by unfold pNum; rw [if_pos c2]
    have e1 : tI n b (a + 2) = nI (b (a + 2)) := by
      unfold tI
      rw [if_pos (tA_lt (n := n) (b := b) (i := a + 2) (by omega)).1]
    refine fin μ v ?_ rfl (by omega)
    rw [e, d1, e1, n_cmul, nI_add, show nI (10 * (b (a + 1) - 48) + b (a + 2)) - 48 = nI (10 * (b (a + 1) - 48) + b (a + 2) - 48) from pk_sub (b := 48) (by omega), e0]
    congr 1
    omega
theorem cL_takeGate {L : LD} (hT : TC μ 0 n b) (hb : ∀ k, k < n → b k < 256) (hn : n ≤ 50) (hC : CL μ L) {a : Nat} (ha : a < 1000) :
    Sp E MX3_takeGate [.ref 1, .ref 115, .int (nI a)] μ (fun v m => ∃ r, v = some (.int r) ∧ (r = pv (pGate n b a L) ∧ CL m (pGate n b a L).2.2 ∧ Fr SL μ m)) := by
  have at_ : ∀ (ν : Mem), Fr SL μ ν → ∀ i : Nat, i < 2000 → Rt E MX8_at [.ref 115, .int (nI i)] ν (some (.int (tI n b i))) ν := fun ν hν i hi => cT_atT (t := 0) (by decide) (hT.fr hν) hn (by omega)
  obtain ⟨g1, g2, g3, g4, g5, g6, g7⟩ := id hC
  have bad1 : (¬ isTb (tA n b a) ∨ 9 ≤ L.1) → ∃ r, some (Value.int (nI a ^^^ (-1))) = some (Value.int r) ∧ (r = pv (pGate n b a L) ∧ CL μ (pGate n b a L).2.2 ∧ Fr SL μ μ) := by
    intro q
    refine ⟨_, rfl, ?_, ?_, Fr.rf⟩
    · rw [pGate_b1 q]
      rfl
    · rw [pGate_b1 q]
      exact hC
  refine Sp.go rfl rfl rfl (gX3_takeGate_0 (by decide) ?_)
  simp only [n_addc]
  refine Rt.i (at_ μ Fr.rf a (by omega)) (Rt.i (cL_isTownByte _) ?_)
  rw [tI_toInt hb, g4]
  simp (disch := omega) only [n_ltc]
  refine ⟨fun c1 => bad1 (Or.inl (by rw [b2_0] at c1; exact c1)), fun c1 => ⟨fun c2 => ?_, fun c2 => bad1 (Or.inr (by omega))⟩⟩
  rw [b2_0, Decidable.not_not] at c1
  refine Rt.i (at_ μ Fr.rf (a + 1) (by omega)) (Rt.i (cL_isTownByte _) ?_)
  rw [tI_toInt hb]
  refine ⟨fun c3 => ?_, fun c3 => ?_⟩
  rotate_left
  · rw [b2_0] at c3
    have e := pGate_b2 (L := L) (a := a) (show ¬ (¬ isTb (tA n b a) ∨ 9 ≤ L.1) from fun q => q.elim (fun q => q c1) (fun q => by omega)) c3
    refine ⟨_, rfl, ?_, ?_, Fr.rf⟩
    · rw [e]
      rfl
    · rw [e]
      exact hC
  rw [b2_0, Decidable.not_not] at c3
  obtain ⟨d1, d2, d3⟩ := tI_48 hb (a := a) (by omega)
  obtain ⟨f1, f2, f3⟩ := tI_48 hb (a := a + 1) (by omega)
  refine Rt.i (at_ μ Fr.rf a (by omega)) (fun v14 e14 => ?_)
  rw [g4]
  simp (disch := omega) only [n_cmul, n_in, nI_clamp]
  refine ⟨by omega, ?_⟩
  rw [d1] at e14
  subst e14
  have x1 : (mI μ 2 (2 * L.1) (nI (b a - 48))).1 1 1 = nI L.1 := g4
  rw [x1]
  simp (disch := omega) only [n_cmul, n_addc, n_in, nI_clamp]
  refine Rt.i (at_ _ (Fr.I (Or.inr rfl)) (a + 1) (by omega)) (fun v18 e18 => ⟨by omega, ?_⟩)
  rw [f1] at e18
  subst e18
  refine Rt.i (at_ _ (Fr.tr (Fr.I (Or.inr rfl)) (Fr.I (Or.inr rfl))) (a + 2) (by omega)) ?_
  rw [tI_eq hb (a + 2) (c := 117) (d := 117) (by decide)]
  generalize hν : mI (mI μ 2 (2 * L.1) (nI (b a - 48))) 2 (2 * L.1 + 1) (nI (b (a + 1) - 48)) = ν
  have y1 : ν.1 1 1 = nI L.1 := by rw [← hν]; exact g4
  have y2 : ν.1 1 2 = nI (wb L.1 L.2.2.2.1) := by rw [← hν]; exact g5
  have fr : Fr SL μ ν := by rw [← hν]; exact Fr.tr (Fr.I (Or.inr rfl)) (Fr.I (Or.inr rfl))
  have wl : wb L.1 L.2.2.2.1 < 512 := Nat.lt_of_lt_of_le (wb_lt _ _) (Nat.pow_le_pow_right (by decide) g1)
  have e := pGate_g (L := L) (a := a) (show ¬ (¬ isTb (tA n b a) ∨ 9 ≤ L.1) from fun q => q.elim (fun q => q c1) (fun q => by omega)) c3
  have rows : ∀ k, k < L.1 + 1 → up L.2.1 L.1 (b a - 48) k < 8 ∧ up L.2.2.1 L.1 (b (a + 1) - 48) k < 8 ∧ ν.1 2 (2 * k) = nI (up L.2.1 L.1 (b a - 48) k) ∧ ν.1 2 (2 * k + 1) = nI (up L.2.2.1 L.1 (b (a + 1) - 48) k) := by
    intro k hk
    obtain ⟨-, z1⟩ := tA_lt (n := n) (b := b) (i := a) (by omega)
    obtain ⟨-, z2⟩ := tA_lt (n := n) (b := b) (i := a + 1) (by omega)
    subst hν
    simp only [mI_1, up]
    by_cases ek : k = L.1
    · subst ek
      simp
      omega
    · have := g7 k (by omega)
      simp [ek]
      grind
  refine ⟨fun c4 v23 e23 v24 e24 => ?_, fun c4 v25 e25 => ?_⟩
  · refine ⟨_, rfl, ?_, ?_, Fr.tr (Fr.tr fr (Fr.I (Or.inl ⟨rfl, by decide, by decide⟩))) (Fr.I (Or.inl ⟨rfl, by decide, by decide⟩))⟩
    · rw [e]
      unfold pv
      rw [if_pos rfl, if_neg c4]
    · rw [e]
      have e9 : wb (L.1 + 1) (up L.2.2.2.1 L.1 (decide (¬ tA n b (a + 2) = 117))) = wb L.1 L.2.2.2.1 ||| 2 ^ L.1 := by
        rw [wb_s, if_pos (by simp [up, c4]), wb_congr (v := L.2.2.2.1) L.1 (fun j hj => by simp [up, show j ≠ L.1 by omega])]
      have e10 : v23 = nI (wb L.1 L.2.2.2.1 ||| 2 ^ L.1) := by
        rw [e23, y1, y2, b_1shl (by omega), b_or (by omega) (by
          have : (2 : Nat) ^ L.1 < 2 ^ 32 := Nat.pow_lt_pow_right (by decide) (by omega)
          exact this)]
      have e11 : v24 = nI (L.1 + 1) := by
        rw [e24]
        show ν.1 1 1 + 1 = _
        rw [y1, nI_1]
      subst e10 e11
      refine ⟨by dsimp only; omega, g2, g3, by simp [mI_1], ?_, ?_, fun k hk => ?_⟩
      · dsimp only
        rw [e9]
        simp [mI_1]
      · show ν.1 1 4 = _
        rw [← hν]
        exact g6
      · exact rows k hk
  · refine ⟨_, rfl, ?_, ?_, Fr.tr fr (Fr.I (Or.inl ⟨rfl, by decide, by decide⟩))⟩
    · rw [e]
      unfold pv
      rw [if_pos rfl, if_pos c4]
    · rw [e]
      have e9 : wb (L.1 + 1) (up L.2.2.2.1 L.1 (decide (¬ tA n b (a + 2) = 117))) = wb L.1 L.2.2.2.1 := by
        rw [wb_s, if_neg (by simp [up, c4]), wb_congr (v := L.2.2.2.1) L.1 (fun j hj => by simp [up, show j ≠ L.1 by omega])]
      have e11 : v25 = nI (L.1 + 1) := by
        rw [e25, y1, nI_1]
      subst e11
      refine ⟨by dsimp only; omega, g2, g3, by simp [mI_1], ?_, ?_, fun k hk => ?_⟩
      · dsimp only
        rw [e9]
        exact y2
      · show ν.1 1 4 = _
        rw [← hν]
        exact g6
      · exact rows k hk
theorem pv_t {r : Nat × Bool × LD} (h : r.2.1 = true) : pv r = nI r.1 := if_pos h
theorem pv_f {r : Nat × Bool × LD} (h : ¬ r.2.1 = true) : pv r = nI r.1 ^^^ (-1) := if_neg h
theorem pPart_fail {a : Nat} {L : LD} (h : (pPart n b a L).2.1 = false) : (pPart n b a L).2.2 = L ∧ (pPart n b a L).1 ≤ a + 1 := by
  unfold pPart at h ⊢
  split
  · rename_i q0
    rw [if_pos q0] at h
    unfold pRoom at h ⊢
    grind
  · rename_i q0
    rw [if_neg q0] at h
    unfold pGate at h ⊢
    grind
theorem cL_faultOf {L : LD} (hT : TC μ 0 n b) (hb : ∀ k, k < n → b k < 256) (hn : n ≤ 50) (hC : CL μ L) :
    Sp E MX3_faultOf [.ref 1, .ref 115] μ (fun v m => ∃ r, v = some (.int r) ∧ (r = oI (pGo n b 50 0 L).1 ∧ CL m (pGo n b 50 0 L).2 ∧ Fr SL μ m)) := by
  refine Sp.go rfl rfl rfl (gX3_faultOf_0 (by decide) ?_)
  generalize hR : pGo n b 50 0 L = R
  have key : ∀ f p a m L, p + f = 50 → a ≤ n + 1 → CL m L → Fr SL μ m → pGo n b f a L = R → Ex E MX3_faultOf (fun v m => ∃ r, v = some (.int r) ∧ (r = oI R.1 ∧ CL m R.2 ∧ Fr SL μ m)) 4 [(0, .ref 1), (1, .ref 115), (2, .int (nI a)), (3, .int (nI p))] [] m := by
    intro f
    induction f with
    | zero =>
      intro p a m L hp ha hC hf hR
      refine gX3_faultOf_4 (by decide) ?_
      simp (disch := omega) only [n_cle]
      refine ⟨fun _ => ?_, fun q => by omega⟩
      rw [← hR]
      exact ⟨_, rfl, rfl, hC, hf⟩
    | succ f ih =>
      intro p a m L hp ha hC hf hR
      refine gX3_faultOf_4 (by decide) ?_
      simp (disch := omega) only [n_cle]
      refine ⟨fun q => by omega, fun _ => ?_⟩
      have at_ : ∀ (ν : Mem), Fr SL μ ν → ∀ i : Nat, i < 2000 → Rt E MX8_at [.ref 115, .int (nI i)] ν (some (.int (tI n b i))) ν := fun ν hν i hi => cT_atT (t := 0) (by decide) (hT.fr hν) hn (by omega)
      refine Rt.i (at_ m hf a (by omega)) ?_
      rw [tI_eq hb a (c := 114) (d := 114) (by decide)]
      have tail : ∀ (r : Int32) (m5 : Mem), r = pv (pPart n b a L) → CL m5 (pPart n b a L).2.2 → Fr SL μ m5 →
          ((0 ≤ r → Sp E MX8_size [.ref 115] m5 (fun v m8 => ∃ r9 : Int32, v = some (.int r9) ∧ ((¬ r = r9 → Sp E MX8_at [.ref 115, .int r] m8 (fun v m11 => ∃ r12 : Int32, v = some (.int r12) ∧ ((r12 = 59 → ∀ v14 : Int32, v14 = r + 1 → ∀ v15 : Int32, v15 = nI p + 1 → Ex E MX3_faultOf (fun v m => ∃ r, v = some (.int r) ∧ (r = oI R.1 ∧ CL m R.2 ∧ Fr SL μ m)) 4 [(0, .ref 1), (1, .ref 115), (2, .int v14), (3, .int v15)] [] m11) ∧ (¬ r12 = 59 → ∃ r1, some (Value.int r) = some (.int r1) ∧ (r1 = oI R.1 ∧ CL m11 R.2 ∧ Fr SL μ m11))))) ∧ (r = r9 → ∃ r1, some (Value.int (-1)) = some (.int r1) ∧ (r1 = oI R.1 ∧ CL m8 R.2 ∧ Fr SL μ m8))))) ∧ (¬ 0 ≤ r → ∃ r1, some (Value.int (r ^^^ (-1))) = some (.int r1) ∧ (r1 = oI R.1 ∧ CL m5 R.2 ∧ Fr SL μ m5))) := by
        intro r m5 hr hC5 hf5
        have hG : pGo n b (f + 1) a L = if (pPart n b a L).2.1 = false then (some (pPart n b a L).1, L) else if (pPart n b a L).1 = n then (none, (pPart n b a L).2.2) else if ¬ tA n b (pPart n b a L).1 = 59 then (some (pPart n b a L).1, (pPart n b a L).2.2) else pGo n b f ((pPart n b a L).1 + 1) (pPart n b a L).2.2 := rfl
        rw [hG] at hR
        by_cases ok : (pPart n b a L).2.1 = true
        · obtain ⟨k1, k2⟩ := pPart_ok ok
          rw [pv_t ok] at hr
          rw [if_neg (by simp [ok])] at hR
          subst hr
          have e1 : m5.1 115 2 = nI n := (hT.fr hf5).1
          simp (disch := omega) only [n_0le]
          refine ⟨fun _ => Rt.i (cT_size (by decide)) ?_, fun q => absurd trivial q⟩
          rw [e1]
          simp (disch := omega) only [n_eq]
          refine ⟨fun q => ?_, fun q => ?_⟩
          · rw [if_neg q] at hR
            refine Rt.i (at_ m5 hf5 _ (by omega)) ?_
            rw [tI_eq hb _ (c := 59) (d := 59) (by decide)]
            refine ⟨fun q2 v14 e14 v15 e15 => ?_, fun q2 => ?_⟩
            · rw [if_neg (not_not_intro q2)] at hR
              rw [e14, e15, nI_1, nI_1]
              exact ih (p + 1) _ m5 _ (by omega) (by omega) hC5 hf5 hR
            · rw [if_pos q2] at hR
              rw [← hR]
              exact ⟨_, rfl, rfl, hC5, hf5⟩
          · rw [if_pos q] at hR
            rw [← hR]
            exact ⟨_, rfl, rfl, hC5, hf5⟩
        · rw [pv_f ok] at hr
          have ok2 : (pPart n b a L).2.1 = false := by simpa using ok
          obtain ⟨w1, w2⟩ := pPart_fail ok2
          rw [if_pos ok2] at hR
          obtain ⟨z1, z2⟩ := not_nI (k := (pPart n b a L).1) (by omega)
          subst hr
          refine ⟨fun q => ?_, fun _ => ?_⟩
          · rw [i_le] at q
            rw [i_lt] at z1
            omega
          · rw [z2, ← hR]
            rw [w1] at hC5
            exact ⟨_, rfl, rfl, hC5, hf5⟩
      refine ⟨fun q => ?_, fun q => ?_⟩
      · refine Sp.i (cL_takeGate (hT.fr hf) hb hn hC (by omega)) (fun r m5 hm => ?_)
        have e : pPart n b a L = pGate n b a L := if_neg q
        exact tail r m5 (by rw [e]; exact hm.1) (by rw [e]; exact hm.2.1) (Fr.tr hf hm.2.2)
      · refine Sp.i (cL_takeRoom (hT.fr hf) hb hn hC (by omega)) (fun r m5 hm => ?_)
        have e : pPart n b a L = pRoom n b a L := if_pos q
        exact tail r m5 (by rw [e]; exact hm.1) (by rw [e]; exact hm.2.1) (Fr.tr hf hm.2.2)
  exact key 50 0 0 μ L rfl (by omega) hC Fr.rf hR
theorem cL_forget : Rt E MX3_forget [.ref 1] μ none (mI (mI (mI μ 1 1 0) 1 2 0) 1 4 11) := Sp.go rfl rfl rfl (gX3_forget_0 ⟨rfl, rfl⟩)
theorem CL_forget : CL (mI (mI (mI μ 1 1 0) 1 2 0) 1 4 11) L0 := ⟨by decide, by decide, by decide, rfl, rfl, rfl, fun k hk => absurd hk (Nat.not_lt_zero k)⟩
theorem Fr_forget : Fr SL μ (mI (mI (mI μ 1 1 0) 1 2 0) 1 4 11) := Fr.tr (Fr.tr (Fr.I (Or.inl ⟨rfl, by decide, by decide⟩)) (Fr.I (Or.inl ⟨rfl, by decide, by decide⟩))) (Fr.I (Or.inl ⟨rfl, by decide, by decide⟩))
theorem oI_m1 (o : Option Nat) (h : ∀ k, o = some k → k < 2 ^ 31) : (oI o = -1) = (o = none) := by
  cases o with
  | none => simp [oI]
  | some k => simp (disch := exact h k rfl) [oI, n_eqm]
theorem pGo_le (hn : n ≤ 50) : ∀ f a L k, a ≤ n + 1 → (pGo n b f a L).1 = some k → k ≤ n + 2 := by
  intro f
  induction f with
  | zero => intro a L k ha h; simp [pGo] at h; omega
  | succ f ih =>
    intro a L k ha h
    unfold pGo at h
    split at h
    · rename_i q
      have := (pPart_fail q).2
      simp at h
      omega
    · rename_i q
      have := pPart_ok (n := n) (b := b) (a := a) (L := L) (by simpa using q)
      split at h
      · simp at h
      · split at h
        · simp at h
          omega
        · exact ih _ _ _ (by omega) h
theorem SL_up {o k : Nat} (h : SL o k) : SL5 o k := by unfold SL at h; unfold SL5; omega
/-- learn: what the text says -/
theorem cL_learn (hT : TC μ 0 n b) (hb : ∀ k, k < n → b k < 256) (hn : n ≤ 50) :
    Sp E MX3_learn [.ref 1, .ref 115] μ (fun v m => v = none ∧ (CL m (land n b).2 ∧ m.1 1 5 = oI (land n b).1 ∧ Fr SL5 μ m)) := by
  refine Sp.go rfl rfl rfl (gX3_learn_0 (by decide) ?_)
  refine Rt.v cL_forget (Rt.i (cT_size (by decide)) ?_)
  have e1 : (mI (mI (mI μ 1 1 0) 1 2 0) 1 4 11).1 115 2 = nI n := hT.1
  rw [e1]
  simp (disch := omega) only [n_eq0]
  have c5 : ∀ (m : Mem) (x : Int32) (L : LD), CL m L → CL (mI m 1 5 x) L := fun m x L h => h.fr rfl rfl rfl (fun _ _ => rfl)
  have f5 : ∀ (m : Mem) (x : Int32), Fr SL5 m (mI m 1 5 x) := fun m x => Fr.I (Or.inl ⟨rfl, by decide⟩)
  refine ⟨fun q => ?_, fun q => ?_⟩
  · refine Sp.i (cL_faultOf (hT.fr Fr_forget) hb hn CL_forget) (fun r m hm => ?_)
    obtain ⟨hr, hC, hf⟩ := hm
    have hf2 : Fr SL5 μ m := (Fr.tr Fr_forget hf).up (fun _ _ => SL_up)
    have e2 : (mI m 1 5 r).1 1 5 = r := by simp [mI_1]
    rw [e2, hr, oI_m1 _ (fun k hk => by have := pGo_le hn 50 0 L0 k (by omega) hk; omega)]
    refine ⟨fun q2 => ⟨trivial, ?_⟩, fun q2 => Rt.v cL_forget ⟨trivial, ?_⟩⟩
    · have e3 : land n b = pGo n b 50 0 L0 := by unfold land; rw [if_neg q, if_pos q2]
      rw [e3]
      exact ⟨c5 _ _ _ hC, by simp [mI_1], Fr.tr hf2 (f5 _ _)⟩
    · have e3 : land n b = ((pGo n b 50 0 L0).1, L0) := by unfold land; rw [if_neg q, if_neg q2]
      rw [e3]
      exact ⟨CL_forget, by simp [mI_1], Fr.tr (Fr.tr hf2 (f5 _ _)) (Fr_forget.up (fun _ _ => SL_up))⟩
  · have e3 : land n b = (none, L0) := by unfold land; rw [if_pos q]
    rw [e3]
    refine ⟨fun _ => ⟨trivial, c5 _ _ _ CL_forget, by simp [mI_1, oI], Fr.tr (Fr_forget.up (fun _ _ => SL_up)) (f5 _ _)⟩, fun q2 => absurd (by simp [mI_1]) q2⟩
end CLAND2
