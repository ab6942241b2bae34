/-! papers -/
abbrev PA : Type := Nat × (Nat → Nat)
/-- a stamp more; what both sides do -/
def stR (p : PA) (l : Nat) : PA := if 0 < p.1 ∧ p.2 (p.1 - 1) = bk l then (p.1 - 1, p.2) else (p.1 + 1, up p.2 p.1 l)
def stA (L : LD) (p : PA) (l : Nat) : PA := if lW L l = true then stR p l else p
def p0 : PA := (0, fun _ => 0)
/-- the letter at a place of a way -/
def ltr (g : Nat) (b : Nat → Nat) (k : Nat) : Nat := (lo g (b k)).getD 0
def pw (L : LD) (b : Nat → Nat) : Nat → PA
  | 0 => p0
  | k + 1 => stA L (pw L b k) (ltr L.1 b k)
/-- the paper of a way -/
def PW (L : LD) (tn : Nat → Nat) (tb : Nat → Nat → Nat) (t : Nat) : PA := if t = 0 ∨ ¬ wf L.1 (tn t) (tb t) = none then p0 else pw L (tb t) (tn t)
/-- its stamps are letters of gates; it has so many at most -/
def Pok (g m : Nat) (p : PA) : Prop := p.1 ≤ m ∧ ∀ i, i < p.1 → p.2 i < 2 * g
theorem stR_ok {g m l : Nat} {p : PA} (h : Pok g m p) (hl : l < 2 * g) : Pok g (m + 1) (stR p l) := by
  obtain ⟨h1, h2⟩ := h
  unfold stR
  split
  · exact ⟨by dsimp only; omega, fun i hi => h2 i (by dsimp only at hi; omega)⟩
  · refine ⟨by dsimp only; omega, fun i hi => ?_⟩
    dsimp only [up] at hi ⊢
    split
    · exact hl
    · exact h2 i (by omega)
theorem stA_ok {g m l : Nat} {L : LD} {p : PA} (h : Pok g m p) (hl : l < 2 * g) : Pok g (m + 1) (stA L p l) := by
  unfold stA
  split
  · exact stR_ok h hl
  · exact ⟨Nat.le_succ_of_le h.1, h.2⟩
theorem wfu_none {g : Nat} {b : Nat → Nat} : ∀ d k, wfu g b d k = none → ∀ j, k ≤ j → j < k + d → ¬ lo g (b j) = none := by
  intro d
  induction d with
  | zero => intro k _ j h1 h2; omega
  | succ d ih =>
    intro k h j h1 h2
    unfold wfu at h
    split at h
    · cases h
    · rename_i q
      by_cases e : j = k
      · rw [e]; exact q
      · exact ih (k + 1) h j (by omega) (by omega)
theorem ltr_some {g n : Nat} {b : Nat → Nat} (h : wf g n b = none) {k : Nat} (hk : k < n) : lo g (b k) = some (ltr g b k) ∧ ltr g b k < 2 * g := by
  have h1 := wfu_none n 0 h k (by omega) (by omega)
  cases hq : lo g (b k) with
  | none => exact absurd hq h1
  | some l =>
    have : ltr g b k = l := by unfold ltr; rw [hq]; rfl
    rw [this]
    exact ⟨rfl, lo_lt hq⟩
theorem pw_ok {L : LD} {n : Nat} {b : Nat → Nat} (h : wf L.1 n b = none) : ∀ k, k ≤ n → Pok L.1 k (pw L b k)
  | 0, _ => ⟨Nat.le_refl 0, fun i hi => absurd hi (Nat.not_lt_zero i)⟩
  | k + 1, hk => stA_ok (pw_ok h k (by omega)) (ltr_some h (by omega)).2
theorem PW_ok {L : LD} {tn : Nat → Nat} {tb : Nat → Nat → Nat} {t : Nat} (hn : ¬ t = 0 → tn t ≤ 30) : Pok L.1 30 (PW L tn tb t) := by
  unfold PW
  split
  · exact ⟨Nat.zero_le _, fun i hi => absurd hi (Nat.not_lt_zero i)⟩
  · rename_i q
    have q1 : ¬ t = 0 := fun e => q (Or.inl e)
    have q2 : wf L.1 (tn t) (tb t) = none := by
      cases hq : wf L.1 (tn t) (tb t) with
      | none => rfl
      | some k => exact absurd (Or.inr (by rw [hq]; simp)) q
    have := pw_ok q2 (tn t) (Nat.le_refl _)
    exact ⟨Nat.le_trans this.1 (hn q1), this.2⟩
/-- a paper in the class's memory, in the reference's -/
def PCl (μ : Mem) (o : Nat) (p : PA) : Prop := μ.1 o 1 = nI p.1 ∧ ∀ i, i < p.1 → μ.1 (o + 1) i = nI (p.2 i)
def PMd (μ : Mem) (w : Nat) (p : PA) : Prop := μ.1 134 w = nI p.1 ∧ ∀ i, i < p.1 → μ.1 133 (60 * w + i) = nI (p.2 i)
section PAPER
variable {E : EV} {μ ν : Mem} {tn : Nat → Nat} {tb : Nat → Nat → Nat} {S : Nat} {L : LD} {g m : Nat} {p : PA}
theorem cP_strikes {o l : Nat} (ho : kd o = 5) (hP : PCl μ o p) (hk : Pok g m p) (hg : g ≤ 9) (hm : m ≤ 60) (hl : l < 2 * g) : Rt E MX5_strikes [.ref o, .int (nI l)] μ (some (.int (b2 (0 < p.1 ∧ p.2 (p.1 - 1) = bk l)))) μ := by
  obtain ⟨k1, k2⟩ := hk
  have hb := bk_lt hl
  refine Sp.go rfl rfl rfl (gX5_strikes_0 ho ?_)
  rw [hP.1, bk_x0 l (by omega)]
  simp (disch := omega) only [n_le0]
  refine ⟨fun q => ⟨by rw [b2_f (by omega)], (by first | rfl | trivial)⟩, fun q => ?_⟩
  rw [show nI p.1 - 1 = nI (p.1 - 1) from pk_sub (b := 1) (by omega)]
  simp (disch := omega) only [n_in, nI_clamp]
  have := k2 (p.1 - 1) (by omega)
  rw [hP.2 (p.1 - 1) (by omega)]
  simp (disch := omega) only [n_eq]
  refine ⟨by omega, fun q2 => ⟨by rw [b2_f (by omega)], (by first | rfl | trivial)⟩, fun q2 => ⟨by rw [b2_t (by omega)], (by first | rfl | trivial)⟩⟩
theorem cP_stamp {o l : Nat} (ho : kd o = 5) (hP : PCl μ o p) (hk : Pok g m p) (hg : g ≤ 9) (hm : m < 60) (hl : l < 2 * g) : Sp E MX5_stamp [.ref o, .int (nI l)] μ (fun v ν => v = none ∧ (PCl ν o (stR p l) ∧ Fr (fun a _ => a = o ∨ a = o + 1) μ ν)) := by
  refine Sp.go rfl rfl rfl (gX5_stamp_0 ho (Rt.i (cP_strikes ho hP hk hg (by omega) hl) ⟨fun q => ?_, fun q => ?_⟩))
  · rw [b2_0] at q
    obtain ⟨k1, k2⟩ := hk
    rw [hP.1]
    simp (disch := omega) only [n_cle, n_in, nI_clamp]
    refine ⟨fun c => by omega, fun _ => ⟨by omega, fun v6 e6 => ?_⟩⟩
    rw [rd1 (by omega), hP.1, nI_1] at e6
    subst e6
    refine ⟨(by first | rfl | trivial), ?_, Fr.tr (Fr.I (Or.inr rfl)) (Fr.I (Or.inl rfl))⟩
    unfold stR
    rw [if_neg q]
    refine ⟨rde, fun i hi => ?_⟩
    rw [rd1 (by omega)]
    dsimp only [up] at hi ⊢
    by_cases e : i = p.1
    · rw [if_pos e, e, rde]
    · rw [if_neg e, rd2 e]; exact hP.2 i (by omega)
  · rw [b2_0, Decidable.not_not] at q
    intro v7 e7
    rw [hP.1, show nI p.1 - 1 = nI (p.1 - 1) from pk_sub (b := 1) (by omega)] at e7
    subst e7
    refine ⟨rfl, ?_, Fr.I (Or.inl rfl)⟩
    unfold stR
    rw [if_pos q]
    refine ⟨rde, fun i hi => ?_⟩
    dsimp only at hi
    rw [rd1 (by omega)]
    exact hP.2 i (by omega)
theorem RC.frP {o : Nat} (h : RC μ tn tb S) (ho : o = 4 ∨ o = 6 ∨ o = 9) (hf : Fr (fun a _ => a = o ∨ a = o + 1) μ ν) : RC ν tn tb S := h.fr (hf.up (fun a k q => by unfold SQ; omega))
theorem cX_stampWay {o t : Nat} (h : RC μ tn tb S) (ho : o = 4 ∨ o = 6 ∨ o = 9) (ht : t < 4) : Sp E MX10_stampWay [.ref 0, .int (nI t), .ref o] μ (fun v ν => v = none ∧ (PCl ν o (PW (LN tn tb) tn tb t) ∧ Fr (fun a _ => a = o ∨ a = o + 1) μ ν)) := by
  have hk : kd o = 5 := by rcases ho with rfl | rfl | rfl <;> decide
  obtain ⟨h1, h2, h3, h4, h5⟩ := h.1 t ht
  have hc := cap_le t
  refine Sp.go rfl rfl rfl (gX10_stampWay_0 hk (Rt.v (cP_empty hk) (Rt.i (cX_isWay _) ?_)))
  have f0 : Fr (fun a _ => a = o ∨ a = o + 1) μ (mI μ o 1 0) := Fr.I (Or.inl rfl)
  have r0 : RC (mI μ o 1 0) tn tb S := h.frP ho f0
  have e0 : PCl (mI μ o 1 0) o p0 := ⟨rde, fun i hi => absurd hi (Nat.not_lt_zero i)⟩
  rw [b2_0, Rg.nI (by omega)]
  simp (disch := omega) only [n_in, nI_clamp]
  refine ⟨fun q => ⟨(by first | rfl | trivial), ?_, f0⟩, fun q => ⟨ht, Rt.i (cX_wayFault ht r0) ?_⟩⟩
  · unfold PW
    rw [if_pos (Or.inl (by omega))]
    exact e0
  have hcap : cap t = 30 := by unfold cap; rw [if_neg (by omega)]
  have wle : ∀ d k j, wfu (LN tn tb).1 (tb t) d k = some j → j < k + d := by
    intro d
    induction d with
    | zero => intro k j hj; cases hj
    | succ d ih =>
      intro k j hj
      unfold wfu at hj
      split at hj
      · cases hj; omega
      · have := ih _ _ hj; omega
  rw [oI_m1 _ (fun k hk => by have := wle _ _ _ hk; omega)]
  refine ⟨fun q2 => ?_, fun q2 => ⟨(by first | rfl | trivial), ?_, f0⟩⟩
  rotate_left
  · unfold PW
    rw [if_pos (Or.inr q2)]
    exact e0
  have eP : PW (LN tn tb) tn tb t = pw (LN tn tb) (tb t) (tn t) := by
    unfold PW
    rw [if_neg (fun z => z.elim (fun z => by omega) (fun z => z q2))]
  rw [eP]
  have hg := h.2.1.1
  refine lup (σ := Mem) (J := fun i ξ => Ex E MX10_stampWay _ 28 [(0, .ref 0), (1, .int (nI t)), (2, .ref o), (3, .int (nI i))] [] ξ) (I := fun i ξ => PCl ξ o (pw (LN tn tb) (tb t) i) ∧ Fr (fun a _ => a = o ∨ a = o + 1) μ ξ) (tn t) ?_ ?_ 0 _ (Nat.zero_le _) ⟨e0, f0⟩
  · intro i ξ hi hξ ih
    have rξ := h.frP ho hξ.2
    obtain ⟨j1, j2, j3, j4, j5⟩ := rξ.1 t ht
    refine gX10_stampWay_28 hk ?_
    simp (disch := omega) only [n_in, nI_clamp]
    refine ⟨ht, Rt.i (cT_size (sTx0 t ht)) ?_⟩
    rw [j3.1]
    simp (disch := omega) only [n_le]
    refine ⟨fun c => by omega, fun _ => Rt.i (cT_atT ht j3 (by omega) (by omega)) (Rt.i (cL_letterOf rξ.2.1 _) ?_)⟩
    rw [tI_toInt h2]
    have e : tA (tn t) (tb t) i = (tb t i : Int) := by unfold tA; rw [if_pos hi]
    obtain ⟨l1, l2⟩ := ltr_some q2 hi
    rw [e, l1]
    refine Rt.i (cL_isWatched rξ.2.1 l2) ?_
    rw [b2_0]
    refine ⟨fun c v12 e12 => ?_, fun c => ?_⟩
    · rw [e12, nI_1]
      refine ih _ ⟨?_, hξ.2⟩
      unfold pw stA
      rw [if_neg c]
      exact hξ.1
    · rw [Decidable.not_not] at c
      have pk := pw_ok q2 i (by omega)
      refine Sp.v (cP_stamp hk hξ.1 pk hg (by omega) l2) (fun m13 hm v14 e14 => ?_)
      rw [e14, nI_1]
      refine ih _ ⟨?_, Fr.tr hξ.2 hm.2⟩
      unfold pw stA
      rw [if_pos c]
      exact hm.1
  · intro ξ hξ
    have rξ := h.frP ho hξ.2
    obtain ⟨j1, j2, j3, j4, j5⟩ := rξ.1 t ht
    refine gX10_stampWay_28 hk ?_
    simp (disch := omega) only [n_in, nI_clamp]
    refine ⟨ht, Rt.i (cT_size (sTx0 t ht)) ?_⟩
    rw [j3.1]
    simp (disch := omega) only [n_le]
    exact ⟨fun _ => ⟨(by first | rfl | trivial), hξ⟩, fun c => absurd (Nat.le_refl _) c⟩
end PAPER
