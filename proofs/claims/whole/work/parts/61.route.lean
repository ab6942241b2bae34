/-! a route: lanes between the letters that are needed -/
def og (L : LD) (B : Nat → Nat) (f i : Nat) : Nat := if i = 0 then f else lE L (B (i - 1))
def gl (L : LD) (N : Nat) (B : Nat → Nat) (t i : Nat) : Nat := if i < N then lS L (B i) else t
noncomputable def rD (L : LD) (S N : Nat) (B : Nat → Nat) (f t i : Nat) : Option Nat := dst (lA L S) (og L B f i) (gl L N B t i)
def rok (L : LD) (S N : Nat) (B : Nat → Nat) (f t i : Nat) : Prop := ∀ j, j < i → rD L S N B f t j ≠ none ∧ (j < N → S.testBit (B j / 2) = false)
noncomputable def rsm (L : LD) (S N : Nat) (B : Nat → Nat) (f t : Nat) : Nat → Nat
  | 0 => 0
  | i + 1 => rsm L S N B f t i + (rD L S N B f t i).getD 1000
noncomputable def rpr (L : LD) (S N : Nat) (B : Nat → Nat) (f t : Nat) : Nat → Int64
  | 0 => 1
  | i + 1 => rpr L S N B f t i * uW L S (og L B f i) (gl L N B t i)
def Bok (L : LD) (N : Nat) (B : Nat → Nat) : Prop := N ≤ 60 ∧ ∀ i, i < N → B i < 2 * L.1
theorem og_lt {L : LD} {N : Nat} {B : Nat → Nat} {f i : Nat} (hL : Lok L) (hB : Bok L N B) (hf : f < 8) (hi : i ≤ N) : og L B f i < 8 := by
  unfold og
  split
  · exact hf
  · exact (hL.2 _ (hB.2 _ (by omega))).2
theorem gl_lt {L : LD} {N : Nat} {B : Nat → Nat} {t i : Nat} (hL : Lok L) (hB : Bok L N B) (ht : t < 8) : gl L N B t i < 8 := by
  unfold gl
  split
  · rename_i h
    exact (hL.2 _ (hB.2 _ h)).1
  · exact ht
theorem dst_g {A : Nat → Nat → Prop} {a b : Nat} (ha : a < 8) : (dst A a b).getD 1000 ≤ 1000 := by
  cases c : dst A a b with
  | none => exact Nat.le_refl _
  | some p =>
    have := (dst_8 ha c).1
    show p ≤ 1000
    omega
theorem dst_k {A : Nat → Nat → Prop} {a b : Nat} (ha : a < 8) : (1000 ≤ (dst A a b).getD 1000) = (dst A a b = none) := by
  cases c : dst A a b with
  | none => exact propext ⟨fun _ => rfl, fun _ => Nat.le_refl _⟩
  | some p =>
    have := (dst_8 ha c).1
    refine propext ⟨fun w => ?_, fun w => by cases w⟩
    have w : 1000 ≤ p := w
    omega
theorem rsm_le {L : LD} {S N : Nat} {B : Nat → Nat} {f t : Nat} (hL : Lok L) (hB : Bok L N B) (hf : f < 8) : ∀ i, i ≤ N + 1 → rsm L S N B f t i ≤ 1000 * i
  | 0, _ => Nat.le_refl _
  | i + 1, h => by
    have h1 := rsm_le hL hB hf i (by omega) (S := S) (t := t)
    have h2 := dst_g (A := lA L S) (b := gl L N B t i) (og_lt hL hB hf (show i ≤ N by omega))
    show rsm L S N B f t i + (dst (lA L S) (og L B f i) (gl L N B t i)).getD 1000 ≤ _
    omega
section ROUTE
variable {E : EV} {μ ν : Mem} {L : LD} {S N : Nat} {B : Nat → Nat} {f t i : Nat}
def RTE (μ : Mem) (L : LD) (S N : Nat) (B : Nat → Nat) : Prop := CL μ L ∧ S < 512 ∧ μ.1 1 3 = nI S ∧ NDc μ N B ∧ DMs μ 12 (lA L S) ∧ Bok L N B
theorem RTE.fr {T : Nat → Nat → Prop} (h : RTE μ L S N B) (hf : Fr T μ ν) (hn : ∀ o k, T o k → o = 25 ∨ o = 26) : RTE ν L S N B := by
  have nt : ∀ o k, o ≠ 25 → o ≠ 26 → ¬ T o k := fun o k h1 h2 w => by have := hn o k w; omega
  obtain ⟨h1, h2, h3, h4, h5, h6⟩ := h
  refine ⟨h1.frS hf (fun k => nt _ _ (by omega) (by omega)) (fun k => nt _ _ (by omega) (by omega)), h2, by rw [(hf _ _ (nt _ _ (by omega) (by omega))).1]; exact h3, ⟨by rw [(hf _ _ (nt _ _ (by omega) (by omega))).1]; exact h4.1, fun i hi => by rw [(hf _ _ (nt _ _ (by omega) (by omega))).1]; exact h4.2 i hi⟩, Fr.DMs h5 hf (fun a k ha => nt _ _ (by omega) (by omega)), h6⟩
theorem cR_needAt (h : RTE μ L S N B) (hi : i < N) : Rt E MX6_needAt [.ref 11, .int (nI i)] μ (some (.int (nI (B i)))) μ := by
  obtain ⟨h1, h2, h3, h4, h5, h6⟩ := h
  have := h6.1
  refine Sp.go rfl rfl rfl (gX6_needAt_0 ?_)
  rw [h4.1]
  simp (disch := omega) only [n_lt0, n_le, n_in, nI_clamp]
  rw [h4.2 i hi]
  exact ⟨fun z => z.elim, fun _ => ⟨fun z => by omega, fun _ => ⟨by omega, (by first | rfl | trivial), (by first | rfl | trivial)⟩⟩⟩
theorem cR_goal (h : RTE μ L S N B) (hi : i ≤ N) : Rt E MX6_goal [.ref 11, .int (nI i), .int (nI t)] μ (some (.int (nI (gl L N B t i)))) μ := by
  have h6 := h.2.2.2.2.2
  have := h6.1
  refine Sp.go rfl rfl rfl (gX6_goal_0 ?_)
  rw [h.2.2.2.1.1, n_le (by omega) (by omega)]
  unfold gl
  refine ⟨fun z => ⟨by rw [if_neg (by omega)], rfl⟩, fun z => Rt.i (cR_needAt h (by omega)) (Rt.i (cL_from h.1 (h6.2 i (by omega))) ⟨by rw [if_pos (by omega)], rfl⟩)⟩
theorem cR_origin (h : RTE μ L S N B) (hi : i ≤ N) : Rt E MX6_origin [.ref 11, .int (nI i), .int (nI f)] μ (some (.int (nI (og L B f i)))) μ := by
  have h6 := h.2.2.2.2.2
  have := h6.1
  refine Sp.go rfl rfl rfl (gX6_origin_0 ?_)
  rw [n_eq0 (by omega)]
  unfold og
  refine ⟨fun z => ?_, fun z => ⟨by rw [if_pos z], rfl⟩⟩
  rw [show nI i - 1 = nI (i - 1) from pk_sub (b := 1) (by omega)]
  exact Rt.i (cR_needAt h (by omega)) (Rt.i (cL_to h.1 (h6.2 _ (by omega))) ⟨by rw [if_neg z], rfl⟩)
theorem cR_gatesBetween (h : RTE μ L S N B) (hf : f < 8) (ht : t < 8) : Sp E MX6_gatesBetween [.ref 11, .int (nI f), .int (nI t)] μ (fun v ν => ∃ r, v = some (.int r) ∧ ((rok L S N B f t (N + 1) → r = nI (N + rsm L S N B f t (N + 1))) ∧ (¬ rok L S N B f t (N + 1) → r = -1) ∧ ν = μ)) := by
  have hL := h.1.ok
  obtain ⟨h1, h2, h3, h4, h5, h6⟩ := id h
  have := h6.1
  refine Sp.go rfl rfl rfl (gX6_gatesBetween_0 (fun v1 e1 => ?_))
  rw [e1, h4.1]
  have key : ∀ d i, i + d = N + 1 → rok L S N B f t i → Ex E MX6_gatesBetween (fun v ν => ∃ r, v = some (.int r) ∧ ((rok L S N B f t (N + 1) → r = nI (N + rsm L S N B f t (N + 1))) ∧ (¬ rok L S N B f t (N + 1) → r = -1) ∧ ν = μ)) 8 [(0, .ref 11), (1, .int (nI f)), (2, .int (nI t)), (3, .int (nI (N + rsm L S N B f t i))), (4, .int (nI i))] [] μ := by
    intro d
    induction d with
    | zero =>
      intro i hi hr
      have : i = N + 1 := by omega
      subst this
      refine gX6_gatesBetween_8 ?_
      rw [h4.1, n_lt (by omega) (by omega)]
      exact ⟨fun _ => ⟨_, rfl, fun _ => rfl, fun w => absurd hr w, rfl⟩, fun z => by omega⟩
    | succ d ih =>
      intro i hi hr
      have o8 := og_lt (i := i) hL h6 hf (by omega)
      have g8 := gl_lt (i := i) hL h6 ht
      have bad : (rD L S N B f t i = none ∨ (i < N ∧ S.testBit (B i / 2) = true)) → ∃ r, some (Value.int (-1)) = some (Value.int r) ∧ ((rok L S N B f t (N + 1) → r = nI (N + rsm L S N B f t (N + 1))) ∧ (¬ rok L S N B f t (N + 1) → r = -1) ∧ μ = μ) := by
        intro w
        refine ⟨_, rfl, fun w2 => ?_, fun _ => rfl, rfl⟩
        obtain ⟨q1, q2⟩ := w2 i (by omega)
        rcases w with w | w
        · exact absurd w q1
        · rw [q2 w.1] at w; exact absurd w.2 (by decide)
      have nx : rD L S N B f t i ≠ none → (i < N → S.testBit (B i / 2) = false) → ∀ x : Int32, x = nI (N + rsm L S N B f t i) + oI (rD L S N B f t i) → ∀ v : Int32, v = nI i + 1 → Ex E MX6_gatesBetween (fun v ν => ∃ r, v = some (.int r) ∧ ((rok L S N B f t (N + 1) → r = nI (N + rsm L S N B f t (N + 1))) ∧ (¬ rok L S N B f t (N + 1) → r = -1) ∧ ν = μ)) 8 [(0, .ref 11), (1, .int (nI f)), (2, .int (nI t)), (3, .int x), (4, .int v)] [] μ := by
        intro w1 w2 x hx v hv
        have e : x = nI (N + rsm L S N B f t (i + 1)) := by
          rw [hx]
          show _ = nI (N + (rsm L S N B f t i + (rD L S N B f t i).getD 1000))
          cases c : rD L S N B f t i with
          | none => exact absurd c w1
          | some k =>
            show nI _ + nI k = _
            rw [nI_add, Nat.add_assoc]
            rfl
        rw [e, hv, n_addc]
        refine ih (i + 1) (by omega) (fun j hj => ?_)
        by_cases c : j = i
        · subst c; exact ⟨w1, w2⟩
        · exact hr j (by omega)
      refine gX6_gatesBetween_8 ?_
      rw [h4.1, n_lt (by omega) (by omega)]
      refine ⟨fun z => by omega, fun _ => Rt.i (cR_origin h (by omega)) (Rt.i (cR_goal h (by omega)) (Rt.i (cD_between Dk12 o8 g8) ?_))⟩
      rw [h5 _ _ o8 g8]
      have m1 : (oI (dst (lA L S) (og L B f i) (gl L N B t i)) = -1) = (rD L S N B f t i = none) := oI_m1 _ (fun k hk => by have := (dst_8 o8 hk).1; omega)
      rw [m1, h4.1, n_le (by omega) (by omega)]
      refine ⟨fun z => bad (Or.inl z), fun z => ⟨fun z2 v10 e10 => nx z (fun w => by omega) v10 e10, fun z2 => Rt.i (cR_needAt h (by omega)) ?_⟩⟩
      have bl := h6.2 i (by omega)
      have := hL.1
      refine Rt.i (cL_isOpen h2 h3 (by omega)) ?_
      rw [b2_0]
      have lo : (lO S (B i) = true) = (S.testBit (B i / 2) = false) := by unfold lO; simp
      rw [lo]
      refine ⟨fun z3 v17 e17 => nx z (fun _ => Decidable.not_not.1 z3) v17 e17, fun z3 => bad (Or.inr ⟨by omega, by simpa using z3⟩)⟩
  exact key (N + 1) 0 (by omega) (fun j hj => by omega)
theorem cR_isLane (h : RTE μ L S N B) {l : Nat} (hl : l < 2 * L.1) : Rt E MX6_isLane [.ref 11, .int (nI l)] μ (some (.int (b2 (lU L S l = true)))) μ := by
  have := h.1.1
  refine Sp.go rfl rfl rfl (gX6_isLane_0 (Rt.i (cL_isOpen h.2.1 h.2.2.1 (by omega)) ⟨fun z => ⟨?_, rfl⟩, fun z => Rt.i (cL_isWatched h.1 hl) ⟨fun z2 => ⟨?_, rfl⟩, fun z2 => ⟨?_, rfl⟩⟩⟩))
  · rw [b2_0] at z
    rw [b2_f]
    unfold lO at z
    unfold lU
    simp at z ⊢
    exact fun _ => z
  · rw [b2_0, Decidable.not_not] at z2
    rw [b2_f]
    unfold lU
    simp [z2]
  · rw [b2_0] at z2
    rw [b2_0, Decidable.not_not] at z
    rw [b2_t]
    unfold lO at z
    unfold lU
    simp at z z2 ⊢
    exact ⟨z2, z⟩
def S25 (o _k : Nat) : Prop := o = 25 ∨ o = 26
theorem S25_SQ {o k : Nat} (h : S25 o k) : SQ o k := by unfold S25 at h; unfold SQ; omega
noncomputable def tmW (L : LD) (S e k j a : Nat) (b l : Nat) : Int64 := if lU L S l = true ∧ lE L l = b then (if dst (lA L S) (lS L l) e = some (k + 1) then wN L S j a (lS L l) else 0) else 0
theorem tmW_sum {e k j a b : Nat} (hL : Lok L) (he : e < 8) (ha : a < 8) (hb : b < 8) (hD : dst (lA L S) a e = some (j + (k + 1))) (hk : dst (lA L S) b e = some k) : sJ (2 * L.1) (tmW L S e k j a b) = wN L S (j + 1) a b := by
  refine sJ_congr _ (fun l hl => ?_)
  unfold tmW
  by_cases c : lU L S l = true ∧ lE L l = b
  · rw [if_pos c, if_pos c]
    by_cases c2 : dst (lA L S) (lS L l) e = some (k + 1)
    · rw [if_pos c2]
    · rw [if_neg c2]
      refine (wN_zero hL j _ (fun w => c2 ?_)).symm
      have s8 := (hL.2 l hl).1
      have w2 : dWk (lA L S) (k + 1) (lS L l) e := dWk_cons k e s8 hb ⟨l, hl, lU_p.1 c.1, rfl, c.2⟩ (dst_spec.1 hk).1
      obtain ⟨m, m1, m2⟩ := dst_le w2
      rw [m2]
      by_cases c3 : m < k + 1
      · exact absurd (dWk_app _ _ _ w (dst_spec.1 m2).1) ((dst_spec.1 hD).2 _ (by omega))
      · congr 1; omega
  · rw [if_neg c, if_neg c]
def wyS (m : Mem) (L : LD) (S e k j a : Nat) : Prop := ∀ b, b < 8 → (dst (lA L S) b e = some k → m.2 25 b = wN L S j a b) ∧ (¬ dst (lA L S) b e = some k → m.2 25 b = 0)
theorem cR_stepNearer {e k j a : Nat} (h : RTE μ L S N B) (he : e < 8) (ha : a < 8) (hk : k < 20) (hD : dst (lA L S) a e = some (j + (k + 1))) (hw : wyS μ L S e (k + 1) j a) : Sp E MX6_stepNearer [.ref 11, .int (nI e), .int (nI (k + 1))] μ (fun v ν => v = none ∧ (wyS ν L S e k (j + 1) a ∧ Fr S25 μ ν)) := by
  have hL := h.1.ok
  have hg := hL.1
  refine Sp.go rfl rfl rfl (gX6_stepNearer_0 (Rt.v (cJ_fillL (by decide) (show ln 26 = 8 by decide) (by decide)) ?_))
  have key : ∀ d l m, l + d = 2 * L.1 → Fr (fun o _ => o = 26) μ m → (∀ b, b < 8 → (dst (lA L S) b e = some k → m.2 26 b = sJ l (tmW L S e k j a b)) ∧ (¬ dst (lA L S) b e = some k → m.2 26 b = 0)) → Ex E MX6_stepNearer (fun v ν => v = none ∧ (wyS ν L S e k (j + 1) a ∧ Fr S25 μ ν)) 10 [(0, .ref 11), (1, .int (nI e)), (2, .int (nI (k + 1))), (3, .int (nI l))] [] m := by
    intro d
    induction d with
    | zero =>
      intro l m hl hf hm
      have : l = 2 * L.1 := by omega
      subst this
      have h' := h.fr hf (fun o k w => Or.inr w)
      refine gX6_stepNearer_10 (Rt.i (cL_letters h'.1) ?_)
      rw [n_le (by omega) (by omega)]
      refine ⟨fun _ => ⟨rfl, fun b hb => ?_, ?_⟩, fun z => absurd (Nat.le_refl _) z⟩
      · have r : (mCJ m 26 0 25 0 8).2 25 b = m.2 26 b := by
          show (if 25 = 25 ∧ (0 ≤ b ∧ b < 0 + 8) then m.2 26 (0 + (b - 0)) else _) = _
          rw [if_pos ⟨rfl, by omega, by omega⟩, Nat.zero_add, Nat.sub_zero]
        rw [r]
        refine ⟨fun w => ?_, (hm b hb).2⟩
        rw [(hm b hb).1 w, tmW_sum hL he ha hb hD w]
      · refine Fr.tr (hf.up (fun o k w => Or.inr w)) (fun o k w => ⟨rfl, ?_⟩)
        show (if o = 25 ∧ _ then _ else _) = _
        rw [if_neg (fun q => w (Or.inl q.1))]
    | succ d ih =>
      intro l m hl hf hm
      have l2 : l < 2 * L.1 := by omega
      obtain ⟨s8, e8⟩ := hL.2 l l2
      have h' := h.fr hf (fun o k w => Or.inr w)
      refine gX6_stepNearer_10 (Rt.i (cL_letters h'.1) ?_)
      rw [n_le (by omega) (by omega)]
      have skip : (∀ b, b < 8 → dst (lA L S) b e = some k → tmW L S e k j a b l = 0) → ∀ v : Int32, v = nI l + 1 → Ex E MX6_stepNearer (fun v ν => v = none ∧ (wyS ν L S e k (j + 1) a ∧ Fr S25 μ ν)) 10 [(0, .ref 11), (1, .int (nI e)), (2, .int (nI (k + 1))), (3, .int v)] [] m := by
        intro hz v hv
        rw [hv, n_addc]
        refine ih (l + 1) m (by omega) hf (fun b hb => ⟨fun w => ?_, (hm b hb).2⟩)
        rw [(hm b hb).1 w]
        show _ = sJ l _ + tmW L S e k j a b l
        rw [hz b hb w, Int64.add_zero]
      refine ⟨fun z => by omega, fun _ => Rt.i (cL_from h'.1 l2) (Rt.i (cL_to h'.1 l2) (Rt.i (cR_isLane h' l2) ?_))⟩
      rw [b2_0]
      refine ⟨fun z => skip (fun b hb _ => by unfold tmW; rw [if_neg (fun w => z w.1)]), fun z => Rt.i (cD_between Dk12 s8 he) ?_⟩
      rw [Decidable.not_not] at z
      have eqs : ∀ c n, c < 8 → n < 100 → ((oI (dst (lA L S) c e) = nI n) ↔ dst (lA L S) c e = some n) := by
        intro c n hc hn
        have : (oI (dst (lA L S) c e) = oI (some n)) = (dst (lA L S) c e = some n) := oI_inj (fun m hm => by have := (dst_8 hc hm).1; omega) (fun m hm => by cases hm; omega)
        exact this ▸ Iff.rfl
      rw [h'.2.2.2.2.1 _ _ s8 he, eqs _ _ s8 (by omega)]
      refine ⟨fun z2 => skip (fun b hb _ => ?_), fun z2 => Rt.i (cD_between Dk12 e8 he) ?_⟩
      · unfold tmW
        rw [if_neg z2]
        split <;> rfl
      rw [h'.2.2.2.2.1 _ _ e8 he, show nI (k + 1) - 1 = nI k from pk_sub (a := k + 1) (b := 1) (by omega), eqs _ _ e8 (by omega)]
      refine ⟨fun z3 => skip (fun b hb w => ?_), fun z3 => ?_⟩
      · unfold tmW
        rw [if_neg (fun q => z3 (by rw [q.2]; exact w))]
      simp (disch := omega) only [n_in, nI_clamp]
      refine ⟨e8, s8, fun v22 e22 v23 e23 => ?_⟩
      rw [e23, n_addc]
      refine ih (l + 1) _ (by omega) (Fr.tr hf (Fr.J rfl)) (fun b hb => ?_)
      have w25 : m.2 25 (lS L l) = wN L S j a (lS L l) := by
        rw [(hf 25 _ (by omega)).2]
        exact (hw _ s8).1 z2
      rw [mJ_2]
      by_cases c : b = lE L l
      · rw [if_pos ⟨rfl, c⟩]
        subst c
        refine ⟨fun w => ?_, fun w => absurd z3 w⟩
        rw [e22, (hm _ hb).1 w, w25]
        show _ = sJ l _ + tmW L S e k j a (lE L l) l
        unfold tmW
        rw [if_pos ⟨z, rfl⟩, if_pos z2]
      · rw [if_neg (fun w => c w.2)]
        refine ⟨fun w => ?_, (hm b hb).2⟩
        rw [(hm b hb).1 w]
        show _ = sJ l _ + tmW L S e k j a b l
        have : tmW L S e k j a b l = 0 := by unfold tmW; rw [if_neg (fun w => c w.2.symm)]
        rw [this, Int64.add_zero]
  refine key (2 * L.1) 0 _ (by omega) (Fr.FJ (fun _ _ _ => rfl)) (fun b hb => ?_)
  rw [mFJ_2, if_pos ⟨rfl, by omega, by omega⟩]
  exact ⟨fun _ => rfl, fun _ => rfl⟩
theorem cR_laneWays {a e n : Nat} (h : RTE μ L S N B) (ha : a < 8) (he : e < 8) (hD : dst (lA L S) a e = some n) : Sp E MX6_laneWays [.ref 11, .int (nI a), .int (nI e)] μ (fun v ν => ∃ r : Int64, v = some (.long r) ∧ (r = uW L S a e ∧ Fr S25 μ ν)) := by
  have hL := h.1.ok
  have n8 := (dst_8 ha hD).1
  have ok : ∀ k : Nat, k < 8 → ¬ b2 (Rg (nI k) 0 7) = 0 := fun k hk z => by
    rw [b2_0, Rg.nI (by omega)] at z
    omega
  refine Sp.go rfl rfl rfl (gX6_laneWays_0 (Rt.v (cJ_fillL (by decide) (show ln 25 = 8 by decide) (by decide)) (Rt.i (cX_isTown _) ⟨fun z => absurd z (ok a ha), fun _ => Rt.i (cX_isTown _) ⟨fun _ => ?_, fun z => absurd z (ok e he)⟩⟩)))
  simp (disch := omega) only [n_in, nI_clamp]
  have f1 : Fr S25 μ (mJ (mFJ μ 25 0 8 0) 25 a 1) := Fr.tr (Fr.FJ (fun _ _ _ => Or.inl rfl)) (Fr.J (Or.inl rfl))
  have h1 := h.fr f1 (fun o k w => w)
  refine ⟨ha, Rt.i (cD_between Dk12 ha he) ?_⟩
  rw [h1.2.2.2.2.1 _ _ ha he, hD]
  have key : ∀ k j m, j + k = n → Fr S25 μ m → wyS m L S e k j a → Ex E MX6_laneWays (fun v ν => ∃ r : Int64, v = some (.long r) ∧ (r = uW L S a e ∧ Fr S25 μ ν)) 41 [(0, .ref 11), (1, .int (nI a)), (2, .int (nI e)), (3, .int (nI k))] [] m := by
    intro k
    induction k with
    | zero =>
      intro j m hj hf hw
      refine gX6_laneWays_41 ?_
      simp (disch := omega) only [n_le0, n_in, nI_clamp]
      refine ⟨fun _ => ⟨he, _, rfl, ?_, hf⟩, fun z => absurd trivial z⟩
      rw [(hw e he).1 dst_refl]
      unfold uW
      rw [hD]
      show _ = wN L S n a e
      rw [show j = n by omega]
    | succ k ih =>
      intro j m hj hf hw
      have h' := h.fr hf (fun o k w => w)
      refine gX6_laneWays_41 ?_
      rw [n_le0 (by omega)]
      refine ⟨fun z => by omega, fun _ => Sp.v (cR_stepNearer h' he ha (by omega) (by rw [hD]; congr 1; omega) hw) (fun m3 h3 v4 e4 => ?_)⟩
      rw [e4, dec1, show nI (k + 1) - 1 = nI k from pk_sub (a := k + 1) (b := 1) (by omega)]
      exact ih (j + 1) m3 (by omega) (Fr.tr hf h3.2) h3.1
  refine key n 0 _ (by omega) f1 (fun b hb => ?_)
  rw [mJ_2, mFJ_2]
  by_cases c : b = a
  · rw [if_pos ⟨rfl, c⟩]
    refine ⟨fun _ => ?_, fun w => absurd (by rw [c]; exact hD) w⟩
    show _ = if a = b then 1 else 0
    rw [if_pos c.symm]
  · rw [if_neg (fun w => c w.2), if_pos ⟨rfl, by omega, by omega⟩]
    refine ⟨fun _ => ?_, fun _ => rfl⟩
    show _ = if a = b then (1 : Int64) else 0
    rw [if_neg (fun w => c w.symm)]
theorem cR_ways (h : RTE μ L S N B) (hf : f < 8) (ht : t < 8) (hr : rok L S N B f t (N + 1)) : Sp E MX6_ways [.ref 11, .int (nI f), .int (nI t)] μ (fun v ν => ∃ r : Int64, v = some (.long r) ∧ (r = rpr L S N B f t (N + 1) ∧ Fr S25 μ ν)) := by
  have hL := h.1.ok
  have h6 := h.2.2.2.2.2
  have := h6.1
  refine Sp.go rfl rfl rfl (gX6_ways_0 ?_)
  have key : ∀ d i m, i + d = N + 1 → Fr S25 μ m → Ex E MX6_ways (fun v ν => ∃ r : Int64, v = some (.long r) ∧ (r = rpr L S N B f t (N + 1) ∧ Fr S25 μ ν)) 5 [(0, .ref 11), (1, .int (nI f)), (2, .int (nI t)), (3, .long (rpr L S N B f t i)), (5, .int (nI i))] [] m := by
    intro d
    induction d with
    | zero =>
      intro i m hi hfr
      have : i = N + 1 := by omega
      subst this
      have h' := h.fr hfr (fun o k w => w)
      refine gX6_ways_5 ?_
      rw [h'.2.2.2.1.1, n_lt (by omega) (by omega)]
      exact ⟨fun _ => ⟨_, rfl, rfl, hfr⟩, fun z => by omega⟩
    | succ d ih =>
      intro i m hi hfr
      have h' := h.fr hfr (fun o k w => w)
      have o8 := og_lt (i := i) hL h6 hf (by omega)
      have g8 := gl_lt (i := i) hL h6 ht
      refine gX6_ways_5 ?_
      rw [h'.2.2.2.1.1, n_lt (by omega) (by omega)]
      refine ⟨fun z => by omega, fun _ => Rt.i (cR_origin h' (by omega)) (Rt.i (cR_goal h' (by omega)) ?_)⟩
      have rd := (hr i (by omega)).1
      cases c : rD L S N B f t i with
      | none => exact absurd c rd
      | some n =>
        refine Sp.l (cR_laneWays h' o8 g8 c) (fun r m6 h6 v8 e8 v9 e9 => ?_)
        rw [e8, e9, n_addc, h6.1]
        exact ih (i + 1) m6 (by omega) (Fr.tr hfr h6.2)
  exact key (N + 1) 0 μ (by omega) Fr.rf
end ROUTE
