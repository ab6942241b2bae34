theorem sJ_rev {F : Nat → Int64} : ∀ n, sJ (n + 1) F = sJ (n + 1) (fun k => F (n - k))
  | 0 => rfl
  | n + 1 => by
    rw [sJ_front, sJ_rev n]
    show F 0 + sJ (n + 1) (fun k => F (n - k + 1)) = sJ (n + 1) (fun k => F (n + 1 - k)) + F (n + 1 - (n + 1))
    rw [Nat.sub_self, Int64.add_comm]
    congr 1
    exact sJ_congr _ (fun k hk => by rw [show n + 1 - k = n - k + 1 by omega])
theorem cv_comm {f g : Nat → Int64} {n : Nat} : cv f g n = cv g f n := by
  unfold cv
  rw [sJ_rev]
  refine sJ_congr _ (fun k hk => ?_)
  rw [Int64.mul_comm, show n - (n - k) = k by omega]
/-- the rounds at an end -/
def rdS (L : LD) (S q t : Nat) (R : Nat → Nat → Int64) (n : Nat) : Int64 := sJ (n - 1) (fun k => R (n - 2 - k) t * aR L S q t (k + 2))
theorem rdS_cv {L : LD} {S q t n : Nat} {R : Nat → Nat → Int64} : rdS L S q t R n = cv (fun k => R k t) (aR L S q t) n := by
  unfold rdS
  rw [cv_comm]
  cases n with
  | zero =>
    show (0 : Int64) = 0 + 0 * R 0 t
    rw [Int64.zero_mul]; rfl
  | succ n =>
    rw [cv_2 aR_0 aR_1]
    refine sJ_congr _ (fun k hk => ?_)
    rw [Int64.mul_comm, show n + 1 - 2 - k = n - 1 - k by omega]
theorem cmp_z {x : Int64} : (lg_cmp x 0 = 0) = (x = 0) := by
  unfold lg_cmp
  apply propext
  constructor
  · intro h
    split at h
    · exact absurd h (by decide)
    · split at h
      · assumption
      · exact absurd h (by decide)
  · intro h
    rw [h]
    decide
section WALKC
variable {E : EV} {μ ν : Mem} {L : LD} {S : Nat} {tn : Nat → Nat} {tb : Nat → Nat → Nat} {R : Nat → Nat → Int64} {x n q c : Nat}
def WKE (μ : Mem) (L : LD) (S : Nat) : Prop := CL μ L ∧ S < 512 ∧ μ.1 1 3 = nI S ∧ ∀ c, c < 8 → μ.1 55 c = nI (rch (lA L S) c)
def S5776 (o _k : Nat) : Prop := 57 ≤ o ∧ o ≤ 77
theorem WKE.fr (h : WKE μ L S) (hf : Fr S5776 μ ν) : WKE ν L S := by
  obtain ⟨h1, h2, h3, h4⟩ := h
  refine ⟨h1.frS hf (fun k => by unfold S5776; omega) (fun k => by unfold S5776; omega), h2, by rw [(hf _ _ (by unfold S5776; omega)).1]; exact h3, fun c hc => by rw [(hf _ _ (by unfold S5776; omega)).1]; exact h4 c hc⟩
def LST (μ : Mem) (L : LD) (S n : Nat) (x2 : Int32) (q : Nat) : Prop := (x2 = -1 ∧ q = 18) ∨ (∃ w, w < 2 * L.1 ∧ S.testBit (w / 2) = false ∧ lW L w = true ∧ x2 = nI w ∧ q = bk w ∧ ∀ r, r + 2 ≤ n → μ.2 (57 + bk w) (r * 8 + lS L w) = cl L S w (lS L w) (lS L w) r)
def RND (μ : Mem) (L : LD) (S n : Nat) : Prop := ∀ r t, 2 ≤ r → r ≤ n → t < 8 → μ.2 75 (r * 8 + t) = aR L S 18 t r
def ROW (μ : Mem) (x n : Nat) (R : Nat → Nat → Int64) : Prop := ∀ k t, k < n → t < 8 → μ.2 x (k * 8 + t) = R k t
theorem cW_behind {x2 : Int32} {t : Nat} (hE : WKE μ L S) (hk : kd x = 21) (hx : ln x = 104) (hn : n ≤ 12) (ht : t < 8) (hR : ROW μ x n R) (hr : RND μ L S n) (hl : LST μ L S n x2 q) : Rt E MX9_behindRounds [.ref 42, .ref x, .int x2, .int (nI n), .int (nI t)] μ (some (.long (rdS L S q t R n))) μ := by
  have hL := hE.1.ok
  have h9 := hL.1
  have loop : ∀ (x5 x6 : Int32), (x5 = 0 → ∀ k, k + 2 ≤ n → aR L S q t (k + 2) = aR L S 18 t (k + 2)) → (¬ x5 = 0 → ∃ w, w < 2 * L.1 ∧ x2 = nI w ∧ x6 = nI (lS L w) ∧ (∀ r, r + 2 ≤ n → μ.2 (57 + bk w) (r * 8 + lS L w) = cl L S w (lS L w) (lS L w) r) ∧ ∀ k, k + 2 ≤ n → aR L S q t (k + 2) = aR L S 18 t (k + 2) - cl L S w (lS L w) (lS L w) k) → ∀ d k, k + d = n - 1 → Ex E MX9_behindRounds (fun v' ν' => v' = some (.long (rdS L S q t R n)) ∧ ν' = μ) 50 [(0, .ref 42), (1, .ref x), (2, .int x2), (3, .int (nI n)), (4, .int (nI t)), (5, .int x5), (6, .int x6), (7, .long (sJ k (fun k => R (n - 2 - k) t * aR L S q t (k + 2)))), (9, .int (nI (k + 2)))] [] μ := by
    intro x5 x6 g0 g1 d
    induction d with
    | zero =>
      intro k hkd
      refine gX9_behindRounds_50 hk hx ?_
      rw [n_lt (by omega) (by omega)]
      refine ⟨fun _ => ⟨?_, rfl⟩, fun z => ?_⟩
      · unfold rdS
        rw [show k = n - 1 by omega]
      · exfalso; omega
    | succ d ih =>
      intro k hkd
      have nx := ih (k + 1) (by omega)
      have st : sJ (k + 1) (fun k => R (n - 2 - k) t * aR L S q t (k + 2)) = sJ k (fun k => R (n - 2 - k) t * aR L S q t (k + 2)) + R (n - 2 - k) t * aR L S q t (k + 2) := rfl
      rw [st] at nx
      refine gX9_behindRounds_50 hk hx ?_
      rw [n_lt (by omega) (by omega), pk_sub (a := n) (b := k + 2) (by omega), show n - (k + 2) = n - 2 - k by omega, show nI (k + 2) - 2 = nI k from pk_sub (a := k + 2) (b := 2) (by omega)]
      simp (disch := omega) only [n_mulc, nI_add, n_in, nI_clamp]
      refine ⟨fun z => by omega, fun _ => ⟨by omega, fun v3 e3 => ?_⟩⟩
      rw [hR (n - 2 - k) t (by omega) ht] at e3
      subst e3
      rw [cmp_z]
      refine ⟨fun z v5 e5 => ?_, fun z => ⟨fun z2 => ⟨by omega, fun v8 e8 v9 e9 => ?_⟩, fun z2 => ?_⟩⟩
      · rw [e5, n_addc]
        rw [z, Int64.zero_mul, Int64.add_zero] at nx
        exact nx
      · rw [e8, e9, n_addc, hr (k + 2) t (by omega) (by omega) ht, Int64.sub_zero, ← g0 z2 k (by omega)]
        exact nx
      · obtain ⟨w, w1, w2, w3, w4, w5⟩ := g1 z2
        have bw := bk_lt w1
        have s8 := (hL.2 w w1).1
        subst w2
        subst w3
        rw [bk_x0 w (by omega)]
        simp (disch := omega) only [n_mulc, nI_add, n_in, nI_clamp]
        refine ⟨by omega, by omega, fun v12 e12 => ⟨by omega, fun v14 e14 v15 e15 => ?_⟩⟩
        rw [w4 k (by omega)] at e12
        rw [e14, e15, n_addc, e12, hr (k + 2) t (by omega) (by omega) ht, ← w5 k (by omega)]
        exact nx
  refine Sp.go rfl rfl rfl (gX9_behindRounds_0 hk hx ?_)
  rcases hl with ⟨l1, l2⟩ | ⟨w, w1, w2, w3, w4, w5, w6⟩
  · subst l2
    refine ⟨fun _ => loop 0 (-1) (fun _ k _ => rfl) (fun z => absurd rfl z) (n - 1) 0 (by omega), fun z => absurd l1 z⟩
  · subst w4
    subst w5
    have e8 := (hL.2 w w1).2
    refine ⟨fun z => absurd z (ng_m1 (by omega)), fun _ => Rt.i (cL_to hE.1 w1) ?_⟩
    rw [n_eq (by omega) (by omega)]
    refine ⟨fun z => loop 0 (-1) (fun _ k _ => ?_) (fun z => absurd rfl z) (n - 1) 0 (by omega), fun z => Rt.i (cL_from hE.1 w1) (loop 1 _ (fun z => absurd z (by decide)) (fun _ => ⟨w, w1, rfl, rfl, w6, fun k _ => ?_⟩) (n - 1) 0 (by omega))⟩
    · rw [aR_bar w1 w2 w3 h9, if_neg (fun v => z v.1), Int64.sub_zero]
    · rw [aR_bar w1 w2 w3 h9, if_pos ⟨z, by omega⟩]
      rfl
def SRw (x n : Nat) (o k : Nat) : Prop := o = x ∧ n * 8 ≤ k ∧ k < n * 8 + 8
def lnS (L : LD) (S : Nat) (R : Nat → Nat → Int64) (m n t : Nat) : Int64 := sI m (fun l => lU L S l && decide (lE L l = t)) (fun l => sf (fun k => R k (lS L l)) n)
theorem cW_goOn {I : Nat → Int64} (hE : WKE μ L S) (hk : kd x = 21) (hx : ln x = 104) (h57 : 57 ≤ x ∧ x ≤ 77) (hn : n + 1 ≤ 12) (hR : ROW μ x (n + 1) R) (hI : ∀ t, t < 8 → μ.2 x ((n + 1) * 8 + t) = I t) : Sp E MX9_goOnByLanes [.ref 42, .ref x, .int (nI (n + 1))] μ (fun v ν => v = none ∧ ((∀ t, t < 8 → ν.2 x ((n + 1) * 8 + t) = I t + lnS L S R (2 * L.1) (n + 1) t) ∧ Fr (SRw x (n + 1)) μ ν)) := by
  have hL := hE.1.ok
  have h9 := hL.1
  have o5 := OLm_lt (S := S) h9
  have ob := OLm_ok h9 hE.2.1
  refine Sp.go rfl rfl rfl (gX9_goOnByLanes_0 hk hx (Rt.i (cL_openLanes hE.1 hE.2.1 hE.2.2.1) (fun v3 e3 v4 e4 => ?_)))
  rw [n_mulc] at e3
  rw [e3, show nI ((n + 1) * 8) - 8 = nI (n * 8) from (pk_sub (a := (n + 1) * 8) (b := 8) (by omega)).trans (by congr 1; omega)] at e4
  subst e3
  subst e4
  have luf : ∀ l, l < 2 * L.1 → ¬ pU L S (l / 2) → lU L S l = false := fun l _ w => by
    cases c : lU L S l with
    | false => rfl
    | true => exact absurd (lU_p.1 c) w
  have key : ∀ d k m, k + d = L.1 → (∀ t, t < 8 → m.2 x ((n + 1) * 8 + t) = I t + lnS L S R (2 * k) (n + 1) t) → Fr (SRw x (n + 1)) μ m → Ex E MX9_goOnByLanes (fun v ν => v = none ∧ ((∀ t, t < 8 → ν.2 x ((n + 1) * 8 + t) = I t + lnS L S R (2 * L.1) (n + 1) t) ∧ Fr (SRw x (n + 1)) μ ν)) 24 [(0, .ref 42), (1, .ref x), (2, .int (nI (n + 1))), (3, .int (nI (OLm L S))), (4, .int (nI ((n + 1) * 8))), (5, .int (nI (n * 8))), (6, .int (nI k))] [] m := by
    intro d
    induction d with
    | zero =>
      intro k m hkd hm hf
      have hE' := hE.fr (hf.up (T := S5776) (fun o k w => by unfold SRw at w; unfold S5776; omega))
      refine gX9_goOnByLanes_24 hk hx (Rt.i (cL_gatesTold hE'.1) ?_)
      rw [n_le (by omega) (by omega)]
      refine ⟨fun _ => ⟨rfl, ?_, hf⟩, fun z => by omega⟩
      rw [show k = L.1 by omega] at hm
      exact hm
    | succ d ih =>
      intro k m hkd hm hf
      have hE' := hE.fr (hf.up (T := S5776) (fun o k w => by unfold SRw at w; unfold S5776; omega))
      have rdo : ∀ t, t < 8 → m.2 x (n * 8 + t) = R n t := fun t ht => by
        rw [(hf _ _ (by unfold SRw; omega)).2]; exact hR n t (by omega) ht
      refine gX9_goOnByLanes_24 hk hx (Rt.i (cL_gatesTold hE'.1) ?_)
      rw [n_le (by omega) (by omega), n_eq0 (by omega), b_bit (by omega) (by omega), tb_div, n_cmul]
      have bit : (nI (if (OLm L S).testBit k = true then 1 else 0) = 1) ↔ pU L S k := by
        rw [← ob k (by omega)]
        cases (OLm L S).testBit k <;> simp <;> decide
      rw [bit]
      have stp : ∀ t, lnS L S R (2 * (k + 1)) (n + 1) t = lnS L S R (2 * k) (n + 1) t + (if (lU L S (2 * k) && decide (lE L (2 * k) = t)) = true then R n (lS L (2 * k)) else 0) + (if (lU L S (2 * k + 1) && decide (lE L (2 * k + 1) = t)) = true then R n (lS L (2 * k + 1)) else 0) := fun t => rfl
      refine ⟨fun z => by omega, fun _ => ⟨fun z => ⟨rfl, fun t ht => ?_, hf⟩, fun z => ⟨fun z2 v6 e6 => ?_, fun z2 => Rt.i (cL_from hE'.1 (by omega)) (Rt.i (cL_to hE'.1 (by omega)) ?_)⟩⟩⟩
      · rw [hm t ht]
        congr 1
        have nol : ∀ j, k ≤ j → j ≤ L.1 → lnS L S R (2 * j) (n + 1) t = lnS L S R (2 * k) (n + 1) t := by
          intro j hj
          induction j with
          | zero => intro _; rw [show k = 0 by omega]
          | succ j ihj =>
            intro hj1
            by_cases c : k = j + 1
            · rw [c]
            · have np : ¬ pU L S j := fun w => by
                have := (ob j (by omega)).2 w
                rw [z, Nat.zero_testBit] at this
                cases this
              have e : lnS L S R (2 * (j + 1)) (n + 1) t = lnS L S R (2 * j) (n + 1) t + (if (lU L S (2 * j) && decide (lE L (2 * j) = t)) = true then R n (lS L (2 * j)) else 0) + (if (lU L S (2 * j + 1) && decide (lE L (2 * j + 1) = t)) = true then R n (lS L (2 * j + 1)) else 0) := rfl
              rw [e, luf (2 * j) (by omega) (by rw [show 2 * j / 2 = j by omega]; exact np), luf (2 * j + 1) (by omega) (by rw [show (2 * j + 1) / 2 = j by omega]; exact np)]
              simp only [Bool.false_and, Bool.false_eq_true, if_false, Int64.add_zero]
              exact ihj (by omega) (by omega)
        exact (nol L.1 (by omega) (Nat.le_refl _)).symm
      · rw [e6, n_addc]
        refine ih (k + 1) m (by omega) (fun t ht => ?_) hf
        rw [hm t ht, stp, luf (2 * k) (by omega) (by rw [show 2 * k / 2 = k by omega]; exact z2), luf (2 * k + 1) (by omega) (by rw [show (2 * k + 1) / 2 = k by omega]; exact z2)]
        simp only [Bool.false_and, Bool.false_eq_true, if_false, Int64.add_zero]
      · obtain ⟨s8, e8⟩ := hL.2 (2 * k) (by omega)
        simp (disch := omega) only [nI_add, n_in, nI_clamp]
        refine ⟨by omega, by omega, fun v13 e13 => ⟨by omega, by omega, fun v16 e16 v17 e17 => ?_⟩⟩
        rw [rdo _ s8, hm _ e8] at e13
        have r2 : (mJ m x ((n + 1) * 8 + lE L (2 * k)) v13).2 x (n * 8 + lE L (2 * k)) = R n (lE L (2 * k)) := by
          rw [mJ_2, if_neg (by omega)]; exact rdo _ e8
        rw [r2] at e16
        rw [e17, n_addc]
        refine ih (k + 1) _ (by omega) (fun t ht => ?_) (Fr.tr hf (Fr.tr (Fr.J ⟨rfl, by omega, by omega⟩) (Fr.J ⟨rfl, by omega, by omega⟩)))
        have lu : lU L S (2 * k) = true := lU_p.2 (by rw [show 2 * k / 2 = k by omega]; exact z2)
        have lu1 : lU L S (2 * k + 1) = true := lU_p.2 (by rw [show (2 * k + 1) / 2 = k by omega]; exact z2)
        rw [stp, lu, lu1, lE_1, ← lE_0 (L := L) (k := k)]
        simp only [Bool.true_and, decide_eq_true_iff]
        rw [mJ_2, mJ_2] at *
        by_cases c1 : lS L (2 * k) = t
        · rw [if_pos ⟨rfl, by omega⟩, if_pos c1, e16]
          by_cases c2 : lE L (2 * k) = t
          · rw [if_pos ⟨rfl, by omega⟩, if_pos c2, e13, c2]
            grind
          · rw [if_neg (by omega), if_neg c2, hm _ s8, c1]
            grind
        · rw [if_neg (by omega), if_neg c1]
          by_cases c2 : lE L (2 * k) = t
          · rw [if_pos ⟨rfl, by omega⟩, if_pos c2, e13, c2]
            grind
          · rw [if_neg (by omega), if_neg c2, hm t ht]
            grind
  refine key L.1 0 μ (by omega) (fun t ht => ?_) Fr.rf
  rw [hI t ht]
  show I t = I t + 0
  rw [Int64.add_zero]
end WALKC
