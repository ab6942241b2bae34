section ERRC
variable {E : EV} {μ ν : Mem} {L : LD} {S h s : Nat} {X : Nat → Nat} {tn : Nat → Nat} {tb : Nat → Nat → Nat}
theorem cE_allowOneMore (hE : ERE μ L S) (hh : h < 8) (hX : EST μ (eV L S h s)) : Sp E MX1_allowOneMore [.ref 27] μ (fun v ν => ∃ r, v = some (.int r) ∧ (Fr S40 μ ν ∧ EST ν (eV L S h (s + 1)) ∧ (r = 0 → ∀ t, t < 8 → eV L S h s t = eV L S h (s + 1) t))) := by
  have hL := hE.1.ok
  have h9 := hL.1
  have x1 : ∀ t, eV L S h s t ≤ 1000 := fun t => (eV_spec L S h s t).1
  refine Sp.go rfl rfl rfl (gX1_allowOneMore_0 ?_)
  have f0 : Fr S40 μ (mCI μ 40 0 41 0 8) := fun o k w => ⟨by
    show (if o = 41 ∧ _ then _ else _) = _
    rw [if_neg (fun q => w (Or.inr q.1))], rfl⟩
  have b0 : ∀ t, t < 8 → (mCI μ 40 0 41 0 8).1 41 t = nI (eV L S h s t) := fun t ht => by
    show (if 41 = 41 ∧ (0 ≤ t ∧ t < 0 + 8) then μ.1 40 (0 + (t - 0)) else _) = _
    rw [if_pos ⟨rfl, by omega, by omega⟩, Nat.zero_add, Nat.sub_zero]
    exact hX t ht
  have a0 : EST (mCI μ 40 0 41 0 8) (eV L S h s) := fun t ht => by
    show (if 40 = 41 ∧ (0 ≤ t ∧ t < 0 + 8) then μ.1 40 (0 + (t - 0)) else μ.1 40 t) = _
    rw [if_neg (fun q => absurd q.1 (by decide))]
    exact hX t ht
  have key : ∀ d l m X (x : Int32), l + d = 2 * L.1 → Fr S40 μ m → (∀ t, t < 8 → m.1 41 t = nI (eV L S h s t)) → EST m X → (∀ t, t < 8 → X t ≤ eV L S h s t) → (∀ t, t < 8 → X t < 1000 → eWk L S h (X t) (s + 1) t) → (∀ l, l < 2 * L.1 → S.testBit (l / 2) = false → lW L l = false → X (lE L l) ≤ X (lS L l) + 1) → (∀ k, k < l → S.testBit (k / 2) = false → lW L k = true → X (lE L k) ≤ eV L S h s (lS L k) + 1) → (x = 0 ∨ x = 1) → (x = 0 → ∀ t, t < 8 → X t = eV L S h s t) → Ex E MX1_allowOneMore (fun v ν => ∃ r, v = some (.int r) ∧ (Fr S40 μ ν ∧ EST ν (eV L S h (s + 1)) ∧ (r = 0 → ∀ t, t < 8 → eV L S h s t = eV L S h (s + 1) t))) 19 [(0, .ref 27), (1, .int x), (2, .int (nI l))] [] m := by
    intro d
    induction d with
    | zero =>
      intro l m X x hl hf hb hm i0 i1 i2 i3 hx hx0
      have : l = 2 * L.1 := by omega
      subst this
      have hE' := hE.fr hf
      have up := eV_up i0 i1 i2 i3 hL hh
      refine gX1_allowOneMore_19 (Rt.i (cL_letters hE'.1) ?_)
      rw [n_le (by omega) (by omega)]
      refine ⟨fun _ => ⟨hx, _, rfl, hf, fun t ht => by rw [hm t ht, up t ht], fun w t ht => by rw [← up t ht, hx0 w t ht]⟩, fun z => absurd (Nat.le_refl _) z⟩
    | succ d ih =>
      intro l m X x hl hf hb hm i0 i1 i2 i3 hx hx0
      have l2 : l < 2 * L.1 := by omega
      obtain ⟨s8, e8⟩ := hL.2 l l2
      have hE' := hE.fr hf
      refine gX1_allowOneMore_19 (Rt.i (cL_letters hE'.1) ?_)
      rw [n_le (by omega) (by omega)]
      have skip : (S.testBit (l / 2) = false → lW L l = true → False) → ∀ v : Int32, v = nI l + 1 → Ex E MX1_allowOneMore (fun v ν => ∃ r, v = some (.int r) ∧ (Fr S40 μ ν ∧ EST ν (eV L S h (s + 1)) ∧ (r = 0 → ∀ t, t < 8 → eV L S h s t = eV L S h (s + 1) t))) 19 [(0, .ref 27), (1, .int x), (2, .int v)] [] m := by
        intro hn v hv
        rw [hv, n_addc]
        refine ih (l + 1) m X x (by omega) hf hb hm i0 i1 i2 (fun k hk w1 w2 => ?_) hx hx0
        by_cases c : k = l
        · subst c; exact (hn w1 w2).elim
        · exact i3 k (by omega) w1 w2
      refine ⟨fun z => by omega, fun _ => Rt.i (cL_isOpen hE'.2.1 hE'.2.2.1 (by omega)) ?_⟩
      rw [b2_0]
      have lo : (lO S l = true) = (S.testBit (l / 2) = false) := by unfold lO; simp
      rw [lo]
      refine ⟨fun z => skip (fun w _ => z w), fun z => Rt.i (cL_isWatched hE'.1 l2) ?_⟩
      rw [b2_0]
      refine ⟨fun z2 => skip (fun _ w => z2 w), fun z2 => Rt.i (cL_to hE'.1 l2) (Rt.i (cL_from hE'.1 l2) ?_)⟩
      rw [Decidable.not_not] at z z2
      simp (disch := omega) only [n_in, nI_clamp]
      rw [hb _ s8, n_addc]
      have v1 := x1 (lS L l)
      refine ⟨s8, Sp.i (cE_comeNearer hE' hm (fun t ht => Nat.le_trans (i0 t ht) (x1 t)) e8 (by omega)) (fun r m17 h17 v19 e19 v20 e20 => ?_)⟩
      obtain ⟨fr, h17⟩ := h17
      have hf' : Fr S40 μ m17 := Fr.tr hf (fr.up (fun o _ w => Or.inl w))
      have hb' : ∀ t, t < 8 → m17.1 41 t = nI (eV L S h s t) := fun t ht => by
        rw [(fr _ _ (by omega)).1]; exact hb t ht
      rw [e20, n_addc]
      rcases h17 with ⟨c1, c2, c3⟩ | ⟨c1, c2, c3⟩
      · have c1' := c1
        have x0 := i0 _ e8
        have x1' := x1 (lE L l)
        have wl : eWk L S h (eV L S h s (lS L l) + 1) (s + 1) (lE L l) := ⟨l, l2, z, rfl, Or.inr ⟨z2, s, rfl, (eV_spec L S h s (lS L l)).2.1 (by omega)⟩⟩
        have ex : v19 = 1 := by
          rw [e19, c2]
          rcases hx with q | q <;> rw [q] <;> decide
        subst ex
        refine ih (l + 1) m17 _ 1 (by omega) hf' hb' c3 (fun t ht => Nat.le_trans cnX_le (i0 t ht)) (fun t ht w => ?_) (fun k hk w1 w2 => ?_) (fun k hk w1 w2 => ?_) (Or.inr rfl) (fun w => absurd w (by decide))
        · unfold cnX at w ⊢
          cases q : dst (lA L S) (lE L l) t with
          | none => rw [q] at w; exact i1 t ht w
          | some j =>
            rw [q] at w
            show eWk L S h (min (X t) (eV L S h s (lS L l) + 1 + j)) (s + 1) t
            have w : min (X t) (eV L S h s (lS L l) + 1 + j) < 1000 := w
            by_cases q2 : X t ≤ eV L S h s (lS L l) + 1 + j
            · rw [Nat.min_eq_left q2] at w ⊢
              exact i1 t ht w
            · rw [Nat.min_eq_right (by omega)]
              exact eWk_lanes wl j t (dst_spec.1 q).1
        · have := i2 k hk w1 w2
          have k8 := (hL.2 k hk).1
          unfold cnX
          cases q : dst (lA L S) (lE L l) (lS L k) with
          | none =>
            refine Nat.le_trans ?_ this
            exact cnX_le (c := lE L l) (g := eV L S h s (lS L l) + 1)
          | some j =>
            obtain ⟨i, i1', i2'⟩ := dst_step (A := lA L S) (c := lE L k) k8 q ⟨k, hk, ⟨w2, w1⟩, rfl, rfl⟩
            rw [i2']
            show min (X (lE L k)) (eV L S h s (lS L l) + 1 + i) ≤ min (X (lS L k)) (eV L S h s (lS L l) + 1 + j) + 1
            omega
        · by_cases q : k = l
          · subst q
            unfold cnX
            rw [dst_refl]
            show min (X (lE L k)) (eV L S h s (lS L k) + 1 + 0) ≤ _
            omega
          · exact Nat.le_trans cnX_le (i3 k (by omega) w1 w2)
      · have ex : v19 = x := by
          rw [e19, c2]
          rcases hx with q | q <;> rw [q] <;> decide
        subst ex
        refine ih (l + 1) m17 X v19 (by omega) hf' hb' c3 i0 i1 i2 (fun k hk w1 w2 => ?_) hx hx0
        by_cases q : k = l
        · subst q; omega
        · exact i3 k (by omega) w1 w2
  refine key (2 * L.1) 0 _ (eV L S h s) 0 (by omega) f0 b0 a0 (fun t _ => Nat.le_refl _) (fun t _ w => eWk_mono _ _ _ ((eV_spec L S h s t).2.1 w)) (fun l hl w1 w2 => eV_lane hl w1 w2) (fun k hk => by omega) (Or.inl rfl) (fun _ t _ => rfl)
def SEr (o _k : Nat) : Prop := 28 ≤ o ∧ o ≤ 41
theorem SEr_SQ {o k : Nat} (h : SEr o k) : SQ o k := by unfold SEr at h; unfold SQ; omega
theorem cE_setOut (hC : CL μ L) (hS : S < 512) (h3 : μ.1 1 3 = nI S) (hh : h < 8) : Sp E MX1_setOut [.ref 27, .int (nI h)] μ (fun v ν => v = none ∧ (ERE ν L S ∧ EST ν (eV L S h 0) ∧ Fr SEr μ ν)) := by
  have hL := hC.ok
  refine Sp.go rfl rfl rfl (gX1_setOut_0 (Rt.i (cL_openLanes hC hS h3) (Sp.v (cD_lanes Dk28 (by decide) hC hS) (fun m3 h3' => ?_))))
  have hE : ERE m3 L S := ⟨hC.frS h3'.2 (fun k => by unfold SDd; omega) (fun k => by unfold SDd; omega), hS, by rw [(h3'.2 _ _ (by unfold SDd; omega)).1]; exact h3, h3'.1⟩
  have key : ∀ d k m, k + d = 8 → Fr (fun o _ => o = 40) m3 m → (∀ t, t < k → m.1 40 t = nI (eV L S h 0 t)) → Ex E MX1_setOut (fun v ν => v = none ∧ (ERE ν L S ∧ EST ν (eV L S h 0) ∧ Fr SEr μ ν)) 20 [(0, .ref 27), (1, .int (nI h)), (2, .int (nI k))] [] m := by
    intro d
    induction d with
    | zero =>
      intro k m hk hf hm
      have : k = 8 := by omega
      subst this
      refine gX1_setOut_20 ⟨fun _ => ⟨rfl, hE.fr (hf.up (fun o _ w => Or.inl w)), hm, Fr.tr (h3'.2.up (fun o _ w => by unfold SDd at w; unfold SEr; omega)) (hf.up (fun o _ w => by unfold SEr; omega))⟩, fun z => absurd (by decide) z⟩
    | succ d ih =>
      intro k m hk hf hm
      have k8 : k < 8 := by omega
      have hE' := hE.fr (hf.up (T := S40) (fun o _ w => Or.inl w))
      refine gX1_setOut_20 ?_
      rw [n_cle (by omega) (by decide)]
      refine ⟨fun z => absurd (show 8 ≤ k from z) (by omega), fun _ => Rt.i (cD_between Dk28 hh k8) ?_⟩
      rw [hE'.2.2.2 h k hh k8]
      have m1 : (oI (dst (lA L S) h k) = -1) = (dst (lA L S) h k = none) := oI_m1 _ (fun j hj => by have := (dst_8 hh hj).1; omega)
      rw [m1]
      simp (disch := omega) only [n_in, nI_clamp]
      have e0 := eV_0 (S := S) (t := k) hL hh
      have nx : ∀ x : Int32, x = nI (eV L S h 0 k) → ∀ v : Int32, v = nI k + 1 → Ex E MX1_setOut (fun v ν => v = none ∧ (ERE ν L S ∧ EST ν (eV L S h 0) ∧ Fr SEr μ ν)) 20 [(0, .ref 27), (1, .int (nI h)), (2, .int v)] [] (mI m 40 k x) := by
        intro x hx v hv
        rw [hv, n_addc]
        refine ih (k + 1) _ (by omega) (Fr.tr hf (Fr.I rfl)) (fun t ht => ?_)
        rw [mI_1]
        by_cases q : t = k
        · rw [if_pos ⟨rfl, q⟩, hx, q]
        · rw [if_neg (fun w => q w.2)]
          exact hm t (by omega)
      refine ⟨fun z => ⟨k8, nx _ ?_⟩, fun z => ⟨k8, nx _ ?_⟩⟩
      · rw [← e0]
        cases q : dst (lA L S) h k with
        | none => exact absurd q z
        | some j => rfl
      · rw [← e0, z]
        rfl
  exact key 8 0 m3 rfl Fr.rf (fun t ht => by omega)
noncomputable def eRc (L : LD) (S h s : Nat) : Nat := wb 8 (fun t => decide (eV L S h s t < 1000))
theorem cE_reached (hX : EST μ (eV L S h s)) : Rt E MX1_reached [.ref 27] μ (some (.int (nI (eRc L S h s)))) μ := by
  refine Sp.go rfl rfl rfl (gX1_reached_0 ?_)
  have key : ∀ n k, k + n = 8 → Ex E MX1_reached (fun v' ν' => v' = some (.int (nI (eRc L S h s))) ∧ ν' = μ) 4 [(0, .ref 27), (1, .int (nI (wb k (fun t => decide (eV L S h s t < 1000))))), (2, .int (nI k))] [] μ := by
    intro n
    induction n with
    | zero =>
      intro k hk
      have : k = 8 := by omega
      subst this
      exact gX1_reached_4 ⟨fun _ => ⟨rfl, rfl⟩, fun z => absurd (by decide) z⟩
    | succ n ih =>
      intro k hk
      have nx := ih (k + 1) (by omega)
      have x1 := (eV_spec L S h s k).1
      refine gX1_reached_4 ?_
      simp (disch := omega) only [n_cle, n_in, nI_clamp]
      rw [hX k (by omega), n_cle (by omega) (by decide)]
      refine ⟨fun z => by omega, fun _ => ⟨by omega, fun z v4 e4 => ?_, fun z v5 e5 v6 e6 => ?_⟩⟩
      · have z : 1000 ≤ eV L S h s k := z
        rw [e4, n_addc]
        rw [wb_f (by rw [decide_eq_true_iff]; omega)] at nx
        exact nx
      · have z : ¬ 1000 ≤ eV L S h s k := z
        rw [e5, e6, n_addc, wb_step (by omega)]
        rw [wb_t (by rw [decide_eq_true_iff]; omega)] at nx
        exact nx
  exact key 8 0 rfl
/-- the sum of the steps to some towns -/
noncomputable def eSm (L : LD) (S h s T : Nat) : Nat → Nat
  | 0 => 0
  | k + 1 => if T.testBit k = true then eSm L S h s T k + eV L S h s k else eSm L S h s T k
theorem eSm_le {T : Nat} : ∀ k, eSm L S h s T k ≤ 1000 * k
  | 0 => Nat.le_refl 0
  | k + 1 => by
    have := eSm_le (T := T) k
    have := (eV_spec L S h s k).1
    unfold eSm
    split <;> omega
theorem bitT {T k : Nat} (hT : T < 256) (hk : k < 8) : ((nI T >>> (nI k &&& 31)) &&& 1 = 1) = (T.testBit k = true) := by
  rw [b_bit (by omega) (by omega), tb_div]
  cases T.testBit k <;> simp <;> decide
theorem cE_stepsTo {T : Nat} (hX : EST μ (eV L S h s)) (hT : T < 256) : Rt E MX1_stepsTo [.ref 27, .int (nI T)] μ (some (.int (nI (eSm L S h s T 8)))) μ := by
  refine Sp.go rfl rfl rfl (gX1_stepsTo_0 ?_)
  have key : ∀ n k, k + n = 8 → Ex E MX1_stepsTo (fun v' ν' => v' = some (.int (nI (eSm L S h s T 8))) ∧ ν' = μ) 4 [(0, .ref 27), (1, .int (nI T)), (2, .int (nI (eSm L S h s T k))), (3, .int (nI k))] [] μ := by
    intro n
    induction n with
    | zero =>
      intro k hk
      have : k = 8 := by omega
      subst this
      exact gX1_stepsTo_4 ⟨fun _ => ⟨rfl, rfl⟩, fun z => absurd (by decide) z⟩
    | succ n ih =>
      intro k hk
      have nx := ih (k + 1) (by omega)
      refine gX1_stepsTo_4 ?_
      rw [bitT hT (by omega)]
      simp (disch := omega) only [n_cle, n_in, nI_clamp]
      rw [hX k (by omega), nI_add]
      refine ⟨fun z => by omega, fun _ => ⟨fun z v4 e4 => ?_, fun z => ⟨by omega, fun v5 e5 v6 e6 => ?_⟩⟩⟩
      · rw [e4, n_addc]
        have e : eSm L S h s T (k + 1) = eSm L S h s T k := by
          show (if T.testBit k = true then _ else _) = _
          rw [if_neg z]
        rw [e] at nx
        exact nx
      · rw [e5, e6, n_addc]
        have e : eSm L S h s T (k + 1) = eSm L S h s T k + eV L S h s k := by
          show (if T.testBit k = true then _ else _) = _
          rw [if_pos z]
        rw [e] at nx
        exact nx
  exact key 8 0 rfl
/-- a number of stamps with which all these towns are come to -/
def eOk (L : LD) (S h T s : Nat) : Prop := ∀ t, t < 8 → T.testBit t = true → eV L S h s t < 1000
theorem eRc_and {T : Nat} (hT : T < 256) : ((nI (eRc L S h s) &&& nI T) = nI T) = eOk L S h T s := by
  have r := wb8 (fun t => decide (eV L S h s t < 1000)) 8 (by omega)
  have al := Nat.and_le_right (n := eRc L S h s) (m := T)
  unfold eRc at al ⊢
  rw [b_and (by omega) (by omega), n_eq (by omega) (by omega)]
  apply propext
  constructor
  · intro e t ht w
    rw [← e, Nat.testBit_and, wb_bit] at w
    simp at w
    exact w.1.2
  · intro w
    apply Nat.eq_of_testBit_eq
    intro i
    rw [Nat.testBit_and, wb_bit]
    cases c : T.testBit i with
    | false => simp
    | true =>
      have i8 : i < 8 := by
        by_cases q : i < 8
        · exact q
        · rw [Nat.testBit_lt_two_pow (Nat.lt_of_lt_of_le hT (show 256 ≤ 2 ^ i from Nat.le_trans (show 256 ≤ 2 ^ 8 by decide) (Nat.pow_le_pow_right (by decide) (by omega))))] at c
          cases c
      simp [i8, w i i8 c]
def eFl (L : LD) (S h T R : Nat) (r : Int32) (μ : Mem) : Prop := (∃ s, s ≤ R ∧ eOk L S h T s ∧ (∀ k, k < s → ¬ eOk L S h T k) ∧ r = nI s ∧ EST μ (eV L S h s)) ∨ ((∀ s, s ≤ R → ¬ eOk L S h T s) ∧ r = -1)
theorem cE_fullest {T : Nat} (hC : CL μ L) (hS : S < 512) (h3 : μ.1 1 3 = nI S) (hh : h < 8) (hT : T < 256) : Sp E MX1_fullest [.ref 27, .int (nI h), .int (nI T)] μ (fun v ν => ∃ r, v = some (.int r) ∧ (eFl L S h T L.2.2.2.2 r ν ∧ Fr SEr μ ν)) := by
  have hL := hC.ok
  have hR := hC.2.2.1
  refine Sp.go rfl rfl rfl (gX1_fullest_0 (Sp.v (cE_setOut hC hS h3 hh) (fun m1 h1 => ?_)))
  have key : ∀ d s m, s + d = L.2.2.2.2 + 1 → ERE m L S → EST m (eV L S h s) → Fr SEr μ m → (∀ k, k < s → ¬ eOk L S h T k) → Ex E MX1_fullest (fun v ν => ∃ r, v = some (.int r) ∧ (eFl L S h T L.2.2.2.2 r ν ∧ Fr SEr μ ν)) 7 [(0, .ref 27), (1, .int (nI h)), (2, .int (nI T)), (3, .int (nI s))] [] m := by
    intro d
    induction d with
    | zero =>
      intro s m hs hE hX hf hn
      refine gX1_fullest_7 (Rt.i (cL_roomTold hE.1) ?_)
      rw [n_lt (by omega) (by omega)]
      refine ⟨fun _ => ⟨_, rfl, Or.inr ⟨fun k hk => hn k (by omega), rfl⟩, hf⟩, fun z => by omega⟩
    | succ d ih =>
      intro s m hs hE hX hf hn
      refine gX1_fullest_7 (Rt.i (cL_roomTold hE.1) ?_)
      rw [n_lt (by omega) (by omega)]
      refine ⟨fun z => by omega, fun _ => Rt.i (cE_reached hX) ?_⟩
      rw [eRc_and hT]
      refine ⟨fun z => Sp.i (cE_allowOneMore hE hh hX) (fun r m7 h7 => ?_), fun z => ⟨_, rfl, Or.inl ⟨s, by omega, z, hn, rfl, hX⟩, hf⟩⟩
      have hf' : Fr SEr μ m7 := Fr.tr hf (h7.1.up (fun o _ w => by unfold S40 at w; unfold SEr; omega))
      refine ⟨fun z2 v10 e10 => ?_, fun z2 => ⟨_, rfl, Or.inr ⟨fun k hk => ?_, rfl⟩, hf'⟩⟩
      · rw [e10, n_addc]
        refine ih (s + 1) m7 (by omega) (hE.fr h7.1) h7.2.1 hf' (fun k hk => ?_)
        by_cases q : k = s
        · rw [q]; exact z
        · exact hn k (by omega)
      · by_cases q : k < s
        · exact hn k q
        · intro w
          refine z (fun t ht b => ?_)
          have := eV_fixd hL hh (h7.2.2 z2) (k - s) t
          rw [show s + (k - s) = k by omega] at this
          rw [← this]
          exact w t ht b
  exact key (L.2.2.2.2 + 1) 0 m1 (by omega) h1.1 h1.2.1 h1.2.2 (fun k hk => by omega)
theorem cE_homely (hC : CL μ L) (hS : S < 512) (h3 : μ.1 1 3 = nI S) (hh : h < 8) : Sp E MX1_homely [.ref 27, .int (nI h)] μ (fun v ν => ∃ r, v = some (.int r) ∧ (r = nI (eRc L S h L.2.2.2.2) ∧ Fr SEr μ ν)) := by
  have hL := hC.ok
  have hR := hC.2.2.1
  refine Sp.go rfl rfl rfl (gX1_homely_0 (Sp.v (cE_setOut hC hS h3 hh) (fun m1 h1 => ?_)))
  have key : ∀ d s m (x : Int32), s + d = L.2.2.2.2 → ERE m L S → EST m (eV L S h s) → Fr SEr μ m → (x = 0 → ∀ k t, eV L S h (s + k) t = eV L S h s t) → Ex E MX1_homely (fun v ν => ∃ r, v = some (.int r) ∧ (r = nI (eRc L S h L.2.2.2.2) ∧ Fr SEr μ ν)) 9 [(0, .ref 27), (1, .int (nI h)), (2, .int x), (3, .int (nI s))] [] m := by
    intro d
    induction d with
    | zero =>
      intro s m x hs hE hX hf hx
      have : s = L.2.2.2.2 := by omega
      subst this
      refine gX1_homely_9 (Rt.i (cL_roomTold hE.1) ?_)
      rw [n_le (by omega) (by omega)]
      exact ⟨fun _ => Rt.i (cE_reached hX) ⟨_, rfl, rfl, hf⟩, fun z => absurd (Nat.le_refl _) z⟩
    | succ d ih =>
      intro s m x hs hE hX hf hx
      refine gX1_homely_9 (Rt.i (cL_roomTold hE.1) ?_)
      rw [n_le (by omega) (by omega)]
      refine ⟨fun z => by omega, fun _ => ⟨fun z => Rt.i (cE_reached hX) ⟨_, rfl, ?_, hf⟩, fun z => Sp.i (cE_allowOneMore hE hh hX) (fun r m9 h9 v11 e11 => ?_)⟩⟩
      · have e : (fun t => decide (eV L S h L.2.2.2.2 t < 1000)) = (fun t => decide (eV L S h s t < 1000)) := by
          funext t
          have := hx z (L.2.2.2.2 - s) t
          rw [show s + (L.2.2.2.2 - s) = L.2.2.2.2 by omega] at this
          rw [this]
        unfold eRc
        rw [e]
      · rw [e11, n_addc]
        refine ih (s + 1) m9 r (by omega) (hE.fr h9.1) h9.2.1 (Fr.tr hf (h9.1.up (fun o _ w => by unfold S40 at w; unfold SEr; omega))) (fun w k t => ?_)
        have a := eV_fixd hL hh (h9.2.2 w) (1 + k) t
        have b := eV_fixd hL hh (h9.2.2 w) 1 t
        rw [show s + (1 + k) = s + 1 + k by omega] at a
        rw [a, b]
  exact key L.2.2.2.2 0 m1 1 (by omega) h1.1 h1.2.1 h1.2.2 (fun w => absurd w (by decide))
end ERRC
