/-! judged -/
abbrev JS : Type := Nat × Nat × Nat × PA
/-- whether a letter may be gone through -/
abbrev May (L : LD) (S : Nat) (s : JS) (l : Nat) : Prop := lS L l = s.1 ∧ lO S l = true ∧ (¬ lW L l = true ∨ (0 < s.2.2.2.1 ∧ s.2.2.2.2 (s.2.2.2.1 - 1) = bk l) ∨ s.2.2.2.1 < L.2.2.2.2)
def jst (L : LD) (s : JS) (l : Nat) : JS := (lE L l, max s.2.1 (stA L s.2.2.2 l).1, (if Stk L s.2.2.2 l then s.2.2.1 + 1 else s.2.2.1), stA L s.2.2.2 l)
def jd (L : LD) (S : Nat) (b : Nat → Nat) : Nat → Nat → JS → Option Nat × JS
  | 0, _, s => (none, s)
  | d + 1, k, s => if May L S s (ltr L.1 b k) then jd L S b d (k + 1) (jst L s (ltr L.1 b k)) else (some k, s)
def jV (r : Option Nat × JS) (w : Nat) : Int32 := if w = 0 then oI r.1 else if w = 1 then nI r.2.1 else if w = 2 then nI r.2.2.1 else if w = 3 then nI r.2.2.2.2.1 else nI r.2.2.2.1
/-- what judging a way comes to -/
def jR (L : LD) (S : Nat) (tn : Nat → Nat) (tb : Nat → Nat → Nat) (t tw bg : Nat) : Option Nat × JS := jd L S (tb t) (nW L tn tb t) 0 (tw, (PW L tn tb bg).1, 0, PW L tn tb bg)
def Jok (g k : Nat) (s : JS) : Prop := s.1 < 8 ∧ Pok g (30 + k) s.2.2.2 ∧ s.2.2.2.1 ≤ s.2.1 ∧ s.2.1 ≤ 30 + k ∧ s.2.2.1 ≤ k
def JC (μ : Mem) (s : JS) : Prop := μ.1 8 3 = nI s.1 ∧ μ.1 8 4 = nI s.2.1 ∧ μ.1 8 5 = nI s.2.2.1 ∧ PCl μ 9 s.2.2.2
section JUDGE
variable {E : EV} {μ ν : Mem} {tn : Nat → Nat} {tb : Nat → Nat → Nat} {S : Nat} {L : LD} {s : JS}
theorem lE_lt (hC : CL μ L) {l : Nat} (hl : l < 2 * L.1) : lE L l < 8 := (lS_lt hC (bk_lt hl)).1
theorem jst_ok {k l : Nat} (h : Jok L.1 k s) (hl : l < 2 * L.1) (he : lE L l < 8) : Jok L.1 (k + 1) (jst L s l) := by
  obtain ⟨h1, h2, h3, h4, h5⟩ := h
  have h6 := stA_ok (L := L) h2 hl
  refine ⟨he, h6, Nat.le_max_right _ _, ?_, ?_⟩
  · have := h6.1
    unfold jst
    dsimp only
    omega
  · unfold jst
    dsimp only
    split <;> omega
theorem cJ_mayPass {k l : Nat} (h : RC μ tn tb S) (hJ : JC μ s) (hk : Jok (LN tn tb).1 k s) (hk30 : k < 30) (hl : l < 2 * (LN tn tb).1) : Rt E MX2_mayPass [.ref 8, .int (nI l)] μ (some (.int (b2 (May (LN tn tb) S s l)))) μ := by
  obtain ⟨k1, k2, k3, k4, k5⟩ := hk
  obtain ⟨j1, j2, j3, j4⟩ := hJ
  have hg := h.2.1.1
  have hS := lS_lt h.2.1 hl
  have hp := k2.1
  have hr := h.2.1.2.2.1
  refine Sp.go rfl rfl rfl (gX2_mayPass_0 (Rt.i (cL_from h.2.1 hl) ?_))
  rw [j1]
  simp (disch := omega) only [n_eq]
  refine ⟨fun z => ⟨by rw [b2_f (fun q => z q.1)], (by first | rfl | trivial)⟩, fun z => Rt.i (cL_isOpen h.2.2.2.1 h.2.2.2.2.1 (by omega)) ?_⟩
  rw [b2_0]
  refine ⟨fun z2 => Rt.i (cL_isWatched h.2.1 hl) ?_, fun z2 => ⟨by rw [b2_f (fun q => z2 q.2.1)], (by first | rfl | trivial)⟩⟩
  rw [b2_0]
  rw [Decidable.not_not] at z2
  refine ⟨fun z3 => ⟨by rw [b2_t ⟨z, z2, Or.inl z3⟩], (by first | rfl | trivial)⟩, fun z3 => Rt.i (cP_strikes (by decide) j4 k2 hg (by omega) hl) ?_⟩
  rw [b2_0]
  rw [Decidable.not_not] at z3
  refine ⟨fun z4 => ⟨by rw [b2_t ⟨z, z2, Or.inr (Or.inl (Decidable.not_not.mp z4))⟩], (by first | rfl | trivial)⟩, fun z4 => Rt.i (cP_size (by decide)) (Sp.go rfl rfl rfl (gX3_roomTold_0 ⟨_, rfl, ?_⟩))⟩
  rw [j4.1, h.2.1.2.2.2.2.2.1]
  simp (disch := omega) only [n_le]
  refine ⟨fun z5 => ⟨by rw [b2_f (fun q => q.2.2.elim (fun q => q z3) (fun q => q.elim z4 (fun q => by omega)))], (by first | rfl | trivial)⟩, fun z5 => ⟨by rw [b2_t ⟨z, z2, Or.inr (Or.inr (by omega))⟩], (by first | rfl | trivial)⟩⟩
theorem cJ_pass {k l : Nat} (h : RC μ tn tb S) (hJ : JC μ s) (hk : Jok (LN tn tb).1 k s) (hk30 : k < 30) (hl : l < 2 * (LN tn tb).1) : Sp E MX2_pass [.ref 8, .int (nI l)] μ (fun v m => v = none ∧ (JC m (jst (LN tn tb) s l) ∧ m.1 8 2 = μ.1 8 2 ∧ Fr (fun a _ => 8 ≤ a ∧ a ≤ 10) μ m)) := by
  obtain ⟨k1, k2, k3, k4, k5⟩ := hk
  obtain ⟨j1, j2, j3, j4⟩ := hJ
  have hg := h.2.1.1
  have hp := k2.1
  refine Sp.go rfl rfl rfl (gX2_pass_0 (Rt.i (cL_to h.2.1 hl) ?_))
  have f1 : Fr (fun a _ => 8 ≤ a ∧ a ≤ 10) μ (mI μ 8 3 (nI (lE (LN tn tb) l))) := Fr.I (by omega)
  have r1 : RC (mI μ 8 3 (nI (lE (LN tn tb) l))) tn tb S := h.fr (f1.up (fun a k q => by unfold SQ; omega))
  have P1 : PCl (mI μ 8 3 (nI (lE (LN tn tb) l))) 9 s.2.2.2 := j4.fr (Fr.I (S := fun a _ => a = 8) rfl) (by omega) (fun _ => by omega)
  refine Rt.i (cL_isWatched r1.2.1 hl) ?_
  rw [b2_0]
  refine ⟨fun z => ?_, fun z => ⟨(by first | rfl | trivial), ⟨?_, ?_, ?_, ?_⟩, ?_, f1⟩⟩
  rotate_left
  · rfl
  · unfold jst stA
    rw [rd2 (by omega), j2, if_neg z]
    dsimp only
    rw [Nat.max_eq_left k3]
  · unfold jst
    rw [rd2 (by omega), j3, if_neg (fun q => z q.1)]
  · unfold jst stA
    rw [if_neg z]
    exact P1
  · rw [rd2 (by omega)]
  rw [Decidable.not_not] at z
  have eA : stA (LN tn tb) s.2.2.2 l = stR s.2.2.2 l := if_pos z
  have hok := stR_ok k2 hl
  have hq := hok.1
  have fin : ∀ (m9 : Mem) (c : Nat), PCl m9 9 (stR s.2.2.2 l) → m9.1 8 3 = nI (lE (LN tn tb) l) → m9.1 8 4 = nI s.2.1 → m9.1 8 5 = nI c → m9.1 8 2 = μ.1 8 2 → Fr (fun a _ => 8 ≤ a ∧ a ≤ 10) μ m9 → c = (if Stk (LN tn tb) s.2.2.2 l then s.2.2.1 + 1 else s.2.2.1) → Sp E MX5_size [.ref 9] m9 (fun v m10 => ∃ r11 : Int32, v = some (.int r11) ∧ ∀ v12 : Int32, v12 = (if (m9.1 8 4) < r11 then r11 else (m9.1 8 4)) → (none : Option Value) = none ∧ (JC (mI m10 8 4 v12) (jst (LN tn tb) s l) ∧ (mI m10 8 4 v12).1 8 2 = μ.1 8 2 ∧ Fr (fun a _ => 8 ≤ a ∧ a ≤ 10) μ (mI m10 8 4 v12))) := by
    intro m9 c a1 a2 a3 a4 a5 a6 a7
    refine Rt.i (cP_size (by decide)) (fun v12 e12 => ⟨rfl, ⟨?_, ?_, ?_, ?_⟩, ?_, Fr.tr a6 (Fr.I (by omega))⟩)
    · rw [rd2 (by omega)]; exact a2
    · rw [rde, e12, a3, a1.1]
      unfold jst
      dsimp only
      rw [eA]
      simp (disch := omega) only [n_lt]
      split
      · rw [Nat.max_eq_right (by omega)]
      · rw [Nat.max_eq_left (by omega)]
    · rw [rd2 (by omega), a4, a7]
      rfl
    · unfold jst
      dsimp only
      rw [eA]
      exact a1.fr (Fr.I (S := fun a _ => a = 8) rfl) (by omega) (fun _ => by omega)
    · rw [rd2 (by omega)]; exact a5
  refine Rt.i (cP_strikes (by decide) P1 k2 hg (by omega) hl) ?_
  rw [b2_0]
  refine ⟨fun z2 => Sp.v (cP_stamp (by decide) P1 k2 hg (by omega) hl) (fun m9 hm => ?_), fun z2 v13 e13 => ?_⟩
  · have e : ∀ k, m9.1 8 k = (mI μ 8 3 (nI (lE (LN tn tb) l))).1 8 k := fun k => (hm.2 8 k (by omega)).1
    refine fin m9 s.2.2.1 hm.1 ?_ ?_ ?_ ?_ (Fr.tr f1 (hm.2.up (fun a k q => by omega))) ?_
    · rw [e]; exact rde
    · rw [e, rd2 (by omega)]; exact j2
    · rw [e, rd2 (by omega)]; exact j3
    · rw [e, rd2 (by omega)]
    · rw [if_neg (fun q => z2 q.2)]
  · rw [Decidable.not_not] at z2
    rw [rd2 (by omega), j3, nI_1] at e13
    subst e13
    have P2 : PCl (mI (mI μ 8 3 (nI (lE (LN tn tb) l))) 8 5 (nI (s.2.2.1 + 1))) 9 s.2.2.2 := P1.fr (Fr.I (S := fun a _ => a = 8) rfl) (by omega) (fun _ => by omega)
    refine Sp.v (cP_stamp (by decide) P2 k2 hg (by omega) hl) (fun m9 hm => ?_)
    have e : ∀ k, m9.1 8 k = (mI (mI μ 8 3 (nI (lE (LN tn tb) l))) 8 5 (nI (s.2.2.1 + 1))).1 8 k := fun k => (hm.2 8 k (by omega)).1
    refine fin m9 (s.2.2.1 + 1) hm.1 ?_ ?_ ?_ ?_ (Fr.tr (Fr.tr f1 (Fr.I (by omega))) (hm.2.up (fun a k q => by omega))) ?_
    · rw [e, rd2 (by omega)]; exact rde
    · rw [e, rd2 (by omega), rd2 (by omega)]; exact j2
    · rw [e]; exact rde
    · rw [e, rd2 (by omega), rd2 (by omega)]
    · rw [if_pos ⟨z, z2⟩]
end JUDGE
