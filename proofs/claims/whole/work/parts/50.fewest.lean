section FEWEST
variable {E : EV} {μ ν : Mem} {tn : Nat → Nat} {tb : Nat → Nat → Nat} {S : Nat} {q : PA} {s : LZ}
theorem lta_iff {f : PF} {P : Nat} : ∀ d k, lta s f P d k = true ↔ ∃ j, k ≤ j ∧ j < k + d ∧ s.2.2 j = true ∧ fitP f (pat (s.2.1 j)) P
  | 0, k => ⟨fun h => (by cases h), fun ⟨j, h1, h2, _⟩ => by omega⟩
  | d + 1, k => by
    have ih := lta_iff (f := f) (P := P) d (k + 1)
    unfold lta
    by_cases c : s.2.2 k = true ∧ fitP f (pat (s.2.1 k)) P
    · rw [if_pos c]
      exact ⟨fun _ => ⟨k, by omega, by omega, c⟩, fun _ => rfl⟩
    · rw [if_neg c, ih]
      constructor
      · rintro ⟨j, h1, h2, h3⟩
        exact ⟨j, by omega, by omega, h3⟩
      · rintro ⟨j, h1, h2, h3⟩
        by_cases e : j = k
        · exact absurd (e ▸ h3) c
        · exact ⟨j, by omega, by omega, h3⟩
theorem ct_zero {w : Nat → Bool} : ∀ k, ct w k = 0 ↔ ∀ j, j < k → w j = false
  | 0 => ⟨fun _ j hj => by omega, fun _ => rfl⟩
  | k + 1 => by
    have ih := ct_zero (w := w) k
    rw [ct_s]
    constructor
    · intro h j hj
      by_cases e : j = k
      · subst e
        cases c : w j with
        | false => rfl
        | true => rw [c] at h; simp at h
      · exact ih.1 (by omega) j (by omega)
    · intro h
      rw [ih.2 (fun j hj => h j (by omega)), h k (by omega)]
      rfl
theorem ct_mono {w v : Nat → Bool} : ∀ k, (∀ j, j < k → w j = true → v j = true) → ct w k ≤ ct v k
  | 0, _ => Nat.le_refl _
  | k + 1, h => by
    have ih := ct_mono (w := w) (v := v) k (fun j hj => h j (by omega))
    have := h k (by omega)
    rw [ct_s, ct_s]
    by_cases c : w k = true
    · rw [if_pos c, if_pos (this c)]; omega
    · rw [if_neg c]; omega
def Wu (s : LZ) (b k : Nat) : Nat := wb 11 (uw (pat (s.2.1 b)) (pat (s.2.1 k)))
def okU (s : LZ) (P : Nat) : Bool := decide (ct (slw s P) s.1 = 0)
theorem okU_iff {P : Nat} : okU s P = true ↔ ∀ b k, b < s.1 → k < s.1 → s.2.2 b = false → s.2.2 k = true → Wu s b k &&& P ≠ 0 := by
  unfold okU
  rw [decide_eq_true_iff, ct_zero]
  constructor
  · intro h b k hb hk gb gk w
    have := h b hb
    unfold slw at this
    rw [gb, (lta_iff s.1 0).2 ⟨k, by omega, by omega, gk, w⟩] at this
    cases this
  · intro h b hb
    unfold slw
    cases gb : s.2.2 b with
    | true => rfl
    | false =>
      cases c : lta s (pat (s.2.1 b)) P s.1 0 with
      | false => rfl
      | true =>
        obtain ⟨k, h1, h2, h3, h4⟩ := (lta_iff s.1 0).1 c
        exact absurd h4 (h b k hb (by omega) gb h3)
def fwL (o : Nat → Bool) (n : Nat) : Option Nat → Bool
  | none => o n
  | some b => decide (ctb n < ctb b) && o n
def fw (o : Nat → Bool) : Nat → Option Nat
  | 0 => none
  | n + 1 => if fwL o n (fw o n) = true then some n else fw o n
theorem fw_lt {o : Nat → Bool} : ∀ n b, fw o n = some b → b < n
  | 0, b, h => by cases h
  | n + 1, b, h => by
    unfold fw at h
    split at h
    · cases h; omega
    · have := fw_lt n b h; omega
theorem fw_best {o : Nat → Bool} : ∀ n m, m < n → o m = true → ∃ b, fw o n = some b ∧ ctb b ≤ ctb m
  | 0, m, h, _ => by omega
  | n + 1, m, h, ho => by
    unfold fw
    by_cases e : m = n
    · subst e
      cases c : fw o m with
      | none => exact ⟨m, by rw [if_pos (show fwL o m none = true from ho)], Nat.le_refl _⟩
      | some b =>
        by_cases l : ctb m < ctb b
        · exact ⟨m, by rw [if_pos (show fwL o m (some b) = true by unfold fwL; simp [l, ho])], Nat.le_refl _⟩
        · exact ⟨b, by rw [if_neg (show ¬ fwL o m (some b) = true by unfold fwL; simp [l])], by omega⟩
    · obtain ⟨b, h1, h2⟩ := fw_best n m (by omega) ho
      rw [h1]
      by_cases l : fwL o n (some b) = true
      · have : ctb n < ctb b := by unfold fwL at l; simp at l; exact l.1
        exact ⟨n, by rw [if_pos l], by omega⟩
      · exact ⟨b, by rw [if_neg l], h2⟩
theorem fw_stop {o : Nat → Bool} {V : Nat} (h : ∀ n, o n = true → o (n &&& V) = true) : ∀ d, fw o (V + 1 + d) = fw o (V + 1)
  | 0 => rfl
  | d + 1 => by
    have ih := fw_stop h d
    show (if fwL o (V + 1 + d) (fw o (V + 1 + d)) = true then some (V + 1 + d) else fw o (V + 1 + d)) = _
    rw [ih, if_neg]
    intro l
    have ho : o (V + 1 + d) = true := by
      cases c : fw o (V + 1) with
      | none => rw [c] at l; exact l
      | some b => rw [c] at l; unfold fwL at l; simp at l; exact l.2
    obtain ⟨b, h1, h2⟩ := fw_best (V + 1) ((V + 1 + d) &&& V) (by have := Nat.and_le_right (n := V + 1 + d) (m := V); omega) (h _ ho)
    rw [h1] at l
    unfold fwL at l
    simp at l
    have := ct_mono (w := ((V + 1 + d) &&& V).testBit) (v := (V + 1 + d).testBit) 11 (fun j _ w => by rw [Nat.testBit_and] at w; simp at w; exact w.1)
    have h3 := l.1
    unfold ctb at h2 h3
    omega
theorem cM_fewestNow (hB : LB s) (hM : LM μ s) : Sp E MX11_fewestNow [.ref 123] μ (fun v ν => ∃ r, v = some (.int r) ∧ (r = oI (fw (okU s) 2048) ∧ Fr S145 μ ν)) := by
  have h12 := hB.1
  refine Sp.go rfl rfl rfl (gX11_fewestNow_0 ?_)
  have key : ∀ d k m, k + d = 2048 → Fr S145 μ m → Ex E MX11_fewestNow (fun v ν => ∃ r, v = some (.int r) ∧ (r = oI (fw (okU s) 2048) ∧ Fr S145 μ ν)) 4 [(0, .ref 123), (1, .int (oI (fw (okU s) k))), (2, .int (nI k))] [] m := by
    intro d
    induction d with
    | zero =>
      intro k m hk hf
      have : k = 2048 := by omega
      subst this
      exact gX11_fewestNow_4 ⟨fun _ => ⟨_, rfl, rfl, hf⟩, fun z => absurd (by decide) z⟩
    | succ d ih =>
      intro k m hk hf
      have hM' := hM.f145 hf
      have cl := ct_le (slw s k) s.1
      refine gX11_fewestNow_4 ?_
      simp (disch := omega) only [n_cle]
      have nxt : ∀ m, Fr S145 μ m → ∀ x, x = fw (okU s) (k + 1) → ∀ v : Int32, v = nI k + 1 → Ex E MX11_fewestNow (fun v ν => ∃ r, v = some (.int r) ∧ (r = oI (fw (okU s) 2048) ∧ Fr S145 μ ν)) 4 [(0, .ref 123), (1, .int (oI x)), (2, .int v)] [] m := by
        intro m hf x hx v e
        rw [e, hx, n_addc]
        exact ih (k + 1) m (by omega) hf
      have st : fw (okU s) (k + 1) = if fwL (okU s) k (fw (okU s) k) = true then some k else fw (okU s) k := rfl
      refine ⟨fun z => by omega, fun _ => ?_⟩
      cases c : fw (okU s) k with
      | none =>
        rw [c] at st
        refine ⟨fun _ => Sp.i (cM_slipsOf (by omega) hB hM') (fun r m3 hm3 => ?_), fun z => absurd rfl z⟩
        rw [hm3.1, n_eq0 (by omega)]
        refine ⟨fun z => nxt m3 (Fr.tr hf hm3.2) none ?_, fun z => nxt m3 (Fr.tr hf hm3.2) (some k) ?_⟩
        · rw [st, if_neg (by show ¬ okU s k = true; unfold okU; simpa using z)]
        · rw [st, if_pos (by show okU s k = true; unfold okU; simpa using z)]
      | some b =>
        rw [c] at st
        have hb := fw_lt k b c
        have c1 := ct_le k.testBit 11
        have c2 := ct_le b.testBit 11
        refine ⟨fun z => absurd (show nI b = -1 from z) (by rw [n_eqm (by omega)]; exact fun z => z), fun _ => Rt.i (cM_ones (by omega)) (Rt.i (cM_ones (by omega)) ?_)⟩
        rw [n_le (by unfold ctb; omega) (by unfold ctb; omega)]
        refine ⟨fun z => nxt m hf (some b) ?_, fun z => Sp.i (cM_slipsOf (by omega) hB hM') (fun r m3 hm3 => ?_)⟩
        · rw [st, if_neg (by unfold fwL; simp; omega)]
        · rw [hm3.1, n_eq0 (by omega)]
          refine ⟨fun z2 => nxt m3 (Fr.tr hf hm3.2) (some b) ?_, fun z2 => nxt m3 (Fr.tr hf hm3.2) (some k) ?_⟩
          · rw [st, if_neg (by unfold fwL okU; simp; omega)]
          · rw [st, if_pos (by unfold fwL okU; simp; omega)]
  exact key 2048 0 μ rfl Fr.rf
def S82 (o _k : Nat) : Prop := o = 82
theorem LC.f82 (h : LC μ s) (hf : Fr S82 μ ν) : LC ν s := h.fr hf (by unfold S82; omega) (fun o k _ _ => by unfold S82; omega)
def GU (s : LZ) (m : Mem) (np : Nat) (U : Nat → Nat) (b k : Nat) : Prop := np ≤ 12 * b + k ∧ (∀ j, j < np → m.1 82 j = nI (U j) ∧ ∃ b' k', b' < s.1 ∧ k' < s.1 ∧ s.2.2 b' = false ∧ s.2.2 k' = true ∧ U j = Wu s b' k') ∧ (∀ b' k', (b' < b ∨ (b' = b ∧ k' < k)) → k' < s.1 → s.2.2 b' = false → s.2.2 k' = true → ∃ j, j < np ∧ U j = Wu s b' k')
theorem cI_gather (hB : LB s) (hC : LC μ s) : Sp E MX4_gatherUnlike [.ref 78] μ (fun v m => ∃ r, v = some (.int r) ∧ ((∃ np U, r = nI np ∧ np ≤ 144 ∧ GU s m np U s.1 0) ∧ Fr S82 μ m)) := by
  have h12 := hB.1
  refine Sp.go rfl rfl rfl (gX4_gatherUnlike_0 ?_)
  have key : ∀ d b m np U, b + d = s.1 → Fr S82 μ m → GU s m np U b 0 → Ex E MX4_gatherUnlike (fun v m => ∃ r, v = some (.int r) ∧ ((∃ np U, r = nI np ∧ np ≤ 144 ∧ GU s m np U s.1 0) ∧ Fr S82 μ m)) 4 [(0, .ref 78), (1, .int (nI np)), (2, .int (nI b))] [] m := by
    intro d
    induction d with
    | zero =>
      intro b m np U hb hf hU
      have : b = s.1 := by omega
      subst this
      refine gX4_gatherUnlike_4 ?_
      rw [(hC.f82 hf).1]
      simp (disch := omega) only [n_le]
      exact ⟨fun _ => ⟨_, rfl, ⟨np, U, rfl, by have := hU.1; omega, hU⟩, hf⟩, fun z => by omega⟩
    | succ d ih =>
      intro b m np U hb hf hU
      have inner : ∀ e k m np U, k + e = s.1 → Fr S82 μ m → GU s m np U b k → Ex E MX4_gatherUnlike (fun v m => ∃ r, v = some (.int r) ∧ ((∃ np U, r = nI np ∧ np ≤ 144 ∧ GU s m np U s.1 0) ∧ Fr S82 μ m)) 14 [(0, .ref 78), (1, .int (nI np)), (2, .int (nI b)), (3, .int (nI k))] [] m := by
        intro e
        induction e with
        | zero =>
          intro k m np U hk hf hU
          refine gX4_gatherUnlike_14 ?_
          rw [(hC.f82 hf).1]
          simp (disch := omega) only [n_le]
          refine ⟨fun _ v2 e2 => ?_, fun z => by omega⟩
          rw [e2, n_addc]
          refine ih (b + 1) m np U (by omega) hf ⟨by have := hU.1; omega, hU.2.1, fun b' k' h1 h2 => hU.2.2 b' k' (by omega) h2⟩
        | succ e ihe =>
          intro k m np U hk hf hU
          have hC' := hC.f82 hf
          have np1 := hU.1
          have skip : ¬ (s.2.2 b = false ∧ s.2.2 k = true) → GU s m np U b (k + 1) := by
            intro hn
            refine ⟨by omega, hU.2.1, fun b' k' h1 h2 h3 h4 => ?_⟩
            by_cases c : b' = b ∧ k' = k
            · exact absurd ⟨c.1 ▸ h3, c.2 ▸ h4⟩ hn
            · exact hU.2.2 b' k' (by omega) h2 h3 h4
          refine gX4_gatherUnlike_14 ?_
          rw [hC'.1]
          simp (disch := omega) only [n_le, n_in, nI_clamp]
          rw [(hC'.2 b (by omega)).2.1, (hC'.2 k (by omega)).2.1, b2_0, b2_1, Decidable.not_not]
          refine ⟨fun z => by omega, fun _ => ⟨by omega, fun z v5 e5 => ?_, fun z => ⟨by omega, fun z2 v8 e8 => ?_, fun z2 => Rt.i (cI_unlikeOf hB hC' (by omega) (by omega)) ?_⟩⟩⟩
          · rw [e5, n_addc]
            exact ihe (k + 1) m np U (by omega) hf (skip (fun w => by rw [z] at w; cases w.1))
          · rw [e8, n_addc]
            exact ihe (k + 1) m np U (by omega) hf (skip (fun w => z2 w.2))
          · have z' : s.2.2 b = false := by simpa using z
            refine ⟨by omega, fun v12 e12 v13 e13 => ?_⟩
            rw [e12, e13, n_addc, n_addc]
            refine ihe (k + 1) _ (np + 1) (up U np (Wu s b k)) (by omega) (Fr.tr hf (Fr.I rfl)) ⟨by omega, fun j hj => ?_, fun b' k' h1 h2 h3 h4 => ?_⟩
            · rw [mI_1]
              unfold up
              by_cases c : j = np
              · rw [if_pos ⟨rfl, c⟩, if_pos c]
                exact ⟨rfl, b, k, by omega, by omega, z', z2, rfl⟩
              · rw [if_neg (fun w => c w.2), if_neg c]
                exact hU.2.1 j (by omega)
            · by_cases c : b' = b ∧ k' = k
              · exact ⟨np, by omega, by unfold up; rw [if_pos rfl, c.1, c.2]⟩
              · obtain ⟨j, hj, ej⟩ := hU.2.2 b' k' (by omega) h2 h3 h4
                exact ⟨j, by omega, by unfold up; rw [if_neg (by omega)]; exact ej⟩
      refine gX4_gatherUnlike_4 ?_
      rw [(hC.f82 hf).1]
      simp (disch := omega) only [n_le]
      exact ⟨fun z => by omega, fun _ => inner s.1 0 m np U (by omega) hf hU⟩
  exact key s.1 0 μ 0 (fun _ => 0) (by omega) Fr.rf ⟨by omega, fun j hj => by omega, fun b' k' h => by omega⟩
theorem cI_partsAll {P np : Nat} {U : Nat → Nat} (hP : P < 2048) (hB : LB s) (hn : np ≤ 144) (hU : GU s μ np U s.1 0) : Rt E MX4_partsAll [.ref 78, .int (nI P), .int (nI np)] μ (some (.int (b2 (okU s P = true)))) μ := by
  refine Sp.go rfl rfl rfl (gX4_partsAll_0 ?_)
  have key : ∀ d j, j + d = np → (∀ i, i < j → U i &&& P ≠ 0) → Ex E MX4_partsAll (fun v m => v = some (.int (b2 (okU s P = true))) ∧ m = μ) 2 [(0, .ref 78), (1, .int (nI P)), (2, .int (nI np)), (3, .int (nI j))] [] μ := by
    intro d
    induction d with
    | zero =>
      intro j hj hi
      refine gX4_partsAll_2 ?_
      simp (disch := omega) only [n_le]
      refine ⟨fun _ => ⟨?_, (by first | rfl | trivial)⟩, fun z => by omega⟩
      rw [b2_t (okU_iff.2 (fun b k hb hk gb gk => ?_))]
      obtain ⟨i, i1, i2⟩ := hU.2.2 b k (by omega) hk gb gk
      rw [← i2]
      exact hi i (by omega)
    | succ d ih =>
      intro j hj hi
      obtain ⟨u1, b, k, hb, hk, gb, gk, u2⟩ := hU.2.1 j (by omega)
      refine gX4_partsAll_2 ?_
      simp (disch := omega) only [n_le, n_in, nI_clamp]
      rw [u1, u2]
      unfold Wu
      rw [fit_and hP]
      refine ⟨fun z => by omega, fun _ => ⟨by omega, fun z v4 e4 => ?_, fun z => ⟨?_, (by first | rfl | trivial)⟩⟩⟩
      · rw [e4, n_addc]
        refine ih (j + 1) (by omega) (fun i i1 => ?_)
        by_cases c : i = j
        · rw [c, u2]; exact z
        · exact hi i (by omega)
      · rw [b2_f (fun w => okU_iff.1 w b k hb hk gb gk z)]
  exact key np 0 (by omega) (fun i hi => by omega)
def fwC : Option Nat → Nat
  | none => 12
  | some b => ctb b
theorem cI_fewest (hB : LB s) (hC : LC μ s) : Sp E MX4_fewestPlaces [.ref 78] μ (fun v m => ∃ r, v = some (.int r) ∧ (r = oI (fw (okU s) 2048) ∧ Fr S82 μ m)) := by
  refine Sp.go rfl rfl rfl (gX4_fewestPlaces_0 (Sp.i (cI_gather hB hC) (fun r m hm => ?_)))
  obtain ⟨⟨np, U, rfl, hn, hU⟩, hf⟩ := hm
  have part2 : ∀ V, V < 2048 → (∀ i, i < np → U i &&& V = U i) → Ex E MX4_fewestPlaces (fun v m => ∃ r, v = some (.int r) ∧ (r = oI (fw (okU s) 2048) ∧ Fr S82 μ m)) 38 [(0, .ref 78), (1, .int (nI np)), (2, .int (nI V)), (3, .int ((-1))), (4, .int 12), (5, .int 0)] [] m := by
    intro V hV hW
    have stop : fw (okU s) (V + 1) = fw (okU s) 2048 := by
      have := fw_stop (o := okU s) (V := V) (fun n ho => okU_iff.2 (fun b k hb hk gb gk => by
        have := okU_iff.1 ho b k hb hk gb gk
        obtain ⟨i, i1, i2⟩ := hU.2.2 b k (by omega) hk gb gk
        have h2 := hW i i1
        rw [i2] at h2
        rw [Nat.and_comm n V, ← Nat.and_assoc, h2]
        exact this)) (2047 - V)
      rw [show V + 1 + (2047 - V) = 2048 by omega] at this
      exact this.symm
    have key : ∀ d k, k + d = V + 1 → Ex E MX4_fewestPlaces (fun v m => ∃ r, v = some (.int r) ∧ (r = oI (fw (okU s) 2048) ∧ Fr S82 μ m)) 38 [(0, .ref 78), (1, .int (nI np)), (2, .int (nI V)), (3, .int (oI (fw (okU s) k))), (4, .int (nI (fwC (fw (okU s) k)))), (5, .int (nI k))] [] m := by
      intro d
      induction d with
      | zero =>
        intro k hk
        refine gX4_fewestPlaces_38 ?_
        simp (disch := omega) only [n_lt]
        refine ⟨fun _ => ⟨_, rfl, ?_, hf⟩, fun z => by omega⟩
        rw [show k = V + 1 by omega, stop]
      | succ d ih =>
        intro k hk
        have st : fw (okU s) (k + 1) = if fwL (okU s) k (fw (okU s) k) = true then some k else fw (okU s) k := rfl
        have c1 := ct_le k.testBit 11
        have fb : fwC (fw (okU s) k) ≤ 12 := by
          cases fw (okU s) k with
          | none => exact Nat.le_refl _
          | some b => have := ct_le b.testBit 11; show ctb b ≤ 12; unfold ctb; omega
        have fl : fwL (okU s) k (fw (okU s) k) = true ↔ (ctb k < fwC (fw (okU s) k) ∧ okU s k = true) := by
          cases fw (okU s) k with
          | none => exact ⟨fun w => ⟨by show ctb k < 12; unfold ctb; omega, w⟩, fun w => w.2⟩
          | some b => unfold fwL fwC; simp
        refine gX4_fewestPlaces_38 ?_
        simp (disch := omega) only [n_lt]
        refine ⟨fun z => by omega, fun _ => Rt.i (cJ_bitCount (by omega)) ?_⟩
        rw [n_le (by omega) (by unfold ctb; omega)]
        have same : ¬ fwL (okU s) k (fw (okU s) k) = true → ∀ v : Int32, v = nI k + 1 → Ex E MX4_fewestPlaces (fun v m => ∃ r, v = some (.int r) ∧ (r = oI (fw (okU s) 2048) ∧ Fr S82 μ m)) 38 [(0, .ref 78), (1, .int (nI np)), (2, .int (nI V)), (3, .int (oI (fw (okU s) k))), (4, .int (nI (fwC (fw (okU s) k)))), (5, .int v)] [] m := by
          intro hn v e
          have := ih (k + 1) (by omega)
          rw [st, if_neg hn] at this
          rw [e, n_addc]
          exact this
        refine ⟨fun z => same (by rw [fl]; omega), fun z => Rt.i (cI_partsAll (by omega) hB hn hU) ?_⟩
        rw [b2_0]
        refine ⟨fun z2 => same (by rw [fl]; exact fun w => z2 w.2), fun z2 v e => ?_⟩
        have := ih (k + 1) (by omega)
        rw [st, if_pos (fl.2 ⟨by omega, by simpa using z2⟩)] at this
        rw [e, n_addc]
        exact this
    exact key (V + 1) 0 (by omega)
  have key : ∀ d j V, j + d = np → V < 2048 → (∀ i, i < j → U i &&& V = U i) → Ex E MX4_fewestPlaces (fun v m => ∃ r, v = some (.int r) ∧ (r = oI (fw (okU s) 2048) ∧ Fr S82 μ m)) 9 [(0, .ref 78), (1, .int (nI np)), (2, .int (nI V)), (3, .int (nI j))] [] m := by
    intro d
    induction d with
    | zero =>
      intro j V hj hV hW
      refine gX4_fewestPlaces_9 ?_
      simp (disch := omega) only [n_le]
      exact ⟨fun _ => part2 V hV (fun i hi => hW i (by omega)), fun z => by omega⟩
    | succ d ih =>
      intro j V hj hV hW
      obtain ⟨u1, b, k, hb, hk, gb, gk, u2⟩ := hU.2.1 j (by omega)
      have ul : U j < 2048 := by rw [u2]; exact wb_b _ (by omega)
      refine gX4_fewestPlaces_9 ?_
      simp (disch := omega) only [n_le, n_in, nI_clamp]
      refine ⟨fun z => by omega, fun _ => ⟨by omega, fun v3 e3 v4 e4 => ?_⟩⟩
      rw [e3, e4, u1, n_addc, b_or (by omega) (by omega)]
      refine ih (j + 1) _ (by omega) (Nat.or_lt_two_pow (n := 11) hV ul) (fun i hi => ?_)
      rw [Nat.and_or_distrib_left]
      by_cases c : i = j
      · rw [c, Nat.and_self, Nat.and_comm]
        apply Nat.eq_of_testBit_eq
        intro t
        simp only [Nat.testBit_or, Nat.testBit_and]
        cases (U j).testBit t <;> cases V.testBit t <;> rfl
      · rw [hW i (by omega)]
        apply Nat.eq_of_testBit_eq
        intro t
        simp only [Nat.testBit_or, Nat.testBit_and]
        cases (U i).testBit t <;> cases (U j).testBit t <;> rfl
  exact key np 0 0 (by omega) (by omega) (fun i hi => by omega)
theorem op_fewest (hL : RLi μ s) : Op E MX10_fewest MX11_fewest [] μ (fun ν => Fr SQ μ ν) := by
  refine Sp.go rfl rfl rfl (gX10_fewest_0 (Sp.i (cI_fewest hL.1 hL.2.1) (fun r m hm => ⟨_, rfl, ?_⟩)))
  have fm : Fr SQ μ m := hm.2.up (fun a k q => by unfold S82 at q; unfold SQ; omega)
  refine Sp.go rfl rfl rfl (gX11_fewest_0 (Sp.i (cM_fewestNow hL.1 (hL.fr fm).2.2) (fun r2 m2 hm2 => ⟨by rw [hm2.1, hm.1], Fr.tr fm (hm2.2.up (fun _ _ => S145_SQ))⟩)))
end FEWEST
