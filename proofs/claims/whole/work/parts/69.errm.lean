def nS (F : Nat → Nat) : Nat → Nat
  | 0 => 0
  | k + 1 => nS F k + F k
theorem nS_up {F : Nat → Nat} {j v : Nat} (h : v < F j) : ∀ k, nS (up F j v) k ≤ nS F k ∧ (j < k → nS (up F j v) k < nS F k)
  | 0 => ⟨Nat.le_refl _, fun w => by omega⟩
  | k + 1 => by
    have ih := nS_up h k
    have e : nS (up F j v) (k + 1) = nS (up F j v) k + (if k = j then v else F k) := rfl
    have e2 : nS F (k + 1) = nS F k + F k := rfl
    rw [e, e2]
    by_cases c : k = j
    · rw [if_pos c, c]
      rw [c] at ih
      exact ⟨by omega, fun _ => by omega⟩
    · rw [if_neg c]
      exact ⟨by omega, fun w => by have := ih.2 (by omega); omega⟩
section ERRM
variable {E : EV} {μ ν : Mem} {L : LD} {S h s : Nat} {tn : Nat → Nat} {tb : Nat → Nat → Nat}
def S138 (o _k : Nat) : Prop := o = 138
def GTm (m : Mem) (F : Nat → Nat) : Prop := ∀ i, i < 96 → m.1 138 i = nI (F i)
def gSd (L : LD) (S h : Nat) (F : Nat → Nat) : Prop := ∀ i, i < 96 → F i ≤ 1000 ∧ (F i < 1000 → eWk L S h (F i) (i / 8) (i % 8)) ∧ (i % 8 = h → F i = 0)
def lTo (L : LD) (k l : Nat) : Nat := 8 * (k / 8 + (if lW L l = true then 1 else 0)) + lE L l
def gCl (L : LD) (S : Nat) (F : Nat → Nat) (k l : Nat) : Prop := S.testBit (l / 2) = false → lS L l = k % 8 → lTo L k l < 96 → F (lTo L k l) ≤ F k + 1
theorem gDone {F : Nat → Nat} (hL : Lok L) (hd : gSd L S h F) (hc : ∀ k l, k < 96 → l < 2 * L.1 → gCl L S F k l) : ∀ s t, s < 12 → t < 8 → F (8 * s + t) = eV L S h s t := by
  have lb : ∀ n s t, s < 12 → t < 8 → eWk L S h n s t → F (8 * s + t) ≤ n := by
    intro n
    induction n with
    | zero =>
      intro s t hs ht w
      have w : t = h := w
      have := (hd (8 * s + t) (by omega)).2.2 (by omega)
      omega
    | succ n ih =>
      intro s t hs ht ⟨l, l1, l2, l3, l4⟩
      obtain ⟨s8, e8⟩ := hL.2 l l1
      rcases l4 with ⟨w1, w2⟩ | ⟨w1, r, w2, w3⟩
      · have a := ih s _ hs s8 w2
        have e : lTo L (8 * s + lS L l) l = 8 * s + t := by
          unfold lTo
          rw [w1, l3]
          show 8 * ((8 * s + lS L l) / 8 + 0) + t = _
          omega
        have b := hc (8 * s + lS L l) l (by omega) l1 l2 (by omega) (by rw [e]; omega)
        rw [e] at b
        omega
      · have a := ih r _ (by omega) s8 w3
        have e : lTo L (8 * r + lS L l) l = 8 * s + t := by
          unfold lTo
          rw [w1, l3]
          show 8 * ((8 * r + lS L l) / 8 + 1) + t = _
          omega
        have b := hc (8 * r + lS L l) l (by omega) l1 l2 (by omega) (by rw [e]; omega)
        rw [e] at b
        omega
  intro s t hs ht
  obtain ⟨q1, q2, q3⟩ := hd (8 * s + t) (by omega)
  rw [show (8 * s + t) / 8 = s by omega, show (8 * s + t) % 8 = t by omega] at q2
  exact eV_un q1 q2 (fun n w => lb n s t hs ht w)
theorem gSd_up {F : Nat → Nat} {k l : Nat} (hL : Lok L) (hd : gSd L S h F) (hk : k < 96) (hl : l < 2 * L.1) (h1 : S.testBit (l / 2) = false) (h2 : lS L l = k % 8) (h3 : lTo L k l < 96) (h4 : F k + 1 < F (lTo L k l)) : gSd L S h (up F (lTo L k l) (F k + 1)) := by
  intro i hi
  have e8 := (hL.2 l hl).2
  by_cases c : i = lTo L k l
  · have e : up F (lTo L k l) (F k + 1) i = F k + 1 := by show (if i = lTo L k l then _ else _) = _; rw [if_pos c]
    rw [e]
    have a := hd (lTo L k l) h3
    refine ⟨by omega, fun w => ?_, fun w => ?_⟩
    · obtain ⟨q1, q2, q3⟩ := hd k hk
      have w2 := q2 (by omega)
      refine ⟨l, hl, h1, ?_, ?_⟩
      · rw [c]; unfold lTo; omega
      · rw [h2]
        cases hw : lW L l with
        | false =>
          refine Or.inl ⟨rfl, ?_⟩
          have : i / 8 = k / 8 := by
            rw [c]
            unfold lTo
            rw [hw]
            show (8 * (k / 8 + 0) + lE L l) / 8 = _
            omega
          rw [this]
          exact w2
        | true =>
          refine Or.inr ⟨rfl, k / 8, ?_, w2⟩
          rw [c]
          unfold lTo
          rw [hw]
          show (8 * (k / 8 + 1) + lE L l) / 8 = _
          omega
    · have := a.2.2 (by rw [← c]; exact w)
      omega
  · have e : up F (lTo L k l) (F k + 1) i = F i := by show (if i = lTo L k l then _ else _) = _; rw [if_neg c]
    rw [e]
    exact hd i hi
theorem cM_findErrands (hR : RC μ tn tb S) (hh : h < 8) : Sp E MX11_findErrands [.ref 123, .int (nI h)] μ (fun v ν => v = none ∧ ((∀ s t, s < 12 → t < 8 → ν.1 138 (8 * s + t) = nI (eV (LN tn tb) S h s t)) ∧ ML ν (LN tn tb) ∧ Fr SQ μ ν)) := by
  have hS := hR.2.2.2.1
  refine Sp.go rfl rfl rfl (gX11_findErrands_0 (Sp.i hR.rl (fun r m1 h1 => ?_)))
  obtain ⟨-, M1, R1, F1⟩ := h1
  have s1 := R1.2.2.2.2.2
  generalize LN tn tb = L at *
  have hL := M1.ok
  have h9 := hL.1
  have mk : ∀ m, Fr S138 m1 m → ML m L ∧ m.1 123 13 = nI S ∧ Fr SQ μ m := fun m hf => ⟨M1.frS hf (by unfold S138; omega) (by unfold S138; omega) (fun k => by unfold S138; omega), by rw [(hf _ _ (by unfold S138; omega)).1]; exact s1, Fr.tr F1 (hf.up (fun o k w => by unfold S138 at w; unfold SQ; omega))⟩
  have pass : ∀ B F0, nS F0 96 < B → gSd L S h F0 → ∀ m, GTm m F0 → Fr S138 m1 m → Ex E MX11_findErrands (fun v ν => v = none ∧ ((∀ s t, s < 12 → t < 8 → ν.1 138 (8 * s + t) = nI (eV L S h s t)) ∧ ML ν L ∧ Fr SQ μ ν)) 42 [(0, .ref 123), (1, .int (nI h)), (2, .int 1)] [] m := by
    intro B
    induction B with
    | zero => intro F0 hB; omega
    | succ B ihB =>
      intro F0 hB hd0 m hm0 hf0
      have kk : ∀ n k F m (x : Int32), k + n = 96 → gSd L S h F → GTm m F → Fr S138 m1 m → ((x = 0 ∧ F = F0 ∧ ∀ j l, j < k → l < 2 * L.1 → gCl L S F0 j l) ∨ (x = 1 ∧ nS F 96 < nS F0 96)) → Ex E MX11_findErrands (fun v ν => v = none ∧ ((∀ s t, s < 12 → t < 8 → ν.1 138 (8 * s + t) = nI (eV L S h s t)) ∧ ML ν L ∧ Fr SQ μ ν)) 50 [(0, .ref 123), (1, .int (nI h)), (2, .int x), (3, .int (nI k))] [] m := by
        intro n
        induction n with
        | zero =>
          intro k F m x hk hd hm hf hx
          have : k = 96 := by omega
          subst this
          refine gX11_findErrands_50 ⟨fun _ => ?_, fun z => absurd (by decide) z⟩
          rcases hx with ⟨x0, e, hc⟩ | ⟨x1, hlt⟩
          · subst x0
            subst e
            obtain ⟨M, s, fr⟩ := mk m hf
            refine gX11_findErrands_42 ⟨fun _ => ⟨rfl, fun s t hs ht => ?_, M, fr⟩, fun z => absurd rfl z⟩
            rw [hm _ (by omega), gDone hL hd hc s t hs ht]
          · subst x1
            exact ihB F (by omega) hd m hm hf
        | succ n ihk =>
          intro k F m x hk hd hm hf hx
          have k96 : k < 96 := by omega
          have ll : ∀ n l F m (x : Int32), l + n = 2 * L.1 → gSd L S h F → GTm m F → Fr S138 m1 m → ((x = 0 ∧ F = F0 ∧ (∀ j l, j < k → l < 2 * L.1 → gCl L S F0 j l) ∧ (∀ i, i < l → gCl L S F0 k i)) ∨ (x = 1 ∧ nS F 96 < nS F0 96)) → Ex E MX11_findErrands (fun v ν => v = none ∧ ((∀ s t, s < 12 → t < 8 → ν.1 138 (8 * s + t) = nI (eV L S h s t)) ∧ ML ν L ∧ Fr SQ μ ν)) 59 [(0, .ref 123), (1, .int (nI h)), (2, .int x), (3, .int (nI k)), (4, .int (nI l))] [] m := by
            intro n
            induction n with
            | zero =>
              intro l F m x hl hd hm hf hx
              have : l = 2 * L.1 := by omega
              subst this
              obtain ⟨M, s, fr⟩ := mk m hf
              refine gX11_findErrands_59 ?_
              rw [M.2.2.2.1, n_cmul, n_le (by omega) (by omega)]
              refine ⟨fun _ v2 e2 => ?_, fun z => absurd (Nat.le_refl _) z⟩
              rw [e2, n_addc]
              refine ihk (k + 1) F m x (by omega) hd hm hf (hx.imp (fun ⟨w1, w2, w3, w4⟩ => ⟨w1, w2, fun j l hj hl => ?_⟩) id)
              by_cases c : j = k
              · rw [c]; exact w4 l hl
              · exact w3 j l (by omega) hl
            | succ n ihl =>
              intro l F m x hl hd hm hf hx
              have l2 : l < 2 * L.1 := by omega
              obtain ⟨M, s, fr⟩ := mk m hf
              obtain ⟨s8, e8⟩ := hL.2 l l2
              obtain ⟨q1, q2, q3, q4, q5⟩ := M.2.2.2.2.2 (l / 2) (by omega)
              have skip : gCl L S F k l → ∀ v : Int32, v = nI l + 1 → Ex E MX11_findErrands (fun v ν => v = none ∧ ((∀ s t, s < 12 → t < 8 → ν.1 138 (8 * s + t) = nI (eV L S h s t)) ∧ ML ν L ∧ Fr SQ μ ν)) 59 [(0, .ref 123), (1, .int (nI h)), (2, .int x), (3, .int (nI k)), (4, .int v)] [] m := by
                intro hc v hv
                rw [hv, n_addc]
                refine ihl (l + 1) F m x (by omega) hd hm hf (hx.imp (fun ⟨w1, w2, w3, w4⟩ => ⟨w1, w2, w3, fun i hi => ?_⟩) id)
                by_cases c : i = l
                · rw [c, ← w2]; exact hc
                · exact w4 i (by omega)
              have fk := (hd k k96).1
              have tail : ∀ v7 : Int32, v7 = nI (lTo L k l) → Sp E MX11_isShut [.ref 123, .int (nI l / 2)] m (fun v m8 => ∃ r9 : Int32, v = some (.int r9) ∧ ((¬ r9 = 0 → ∀ v11 : Int32, v11 = nI l + 1 → Ex E MX11_findErrands (fun v ν => v = none ∧ ((∀ s t, s < 12 → t < 8 → ν.1 138 (8 * s + t) = nI (eV L S h s t)) ∧ ML ν L ∧ Fr SQ μ ν)) 59 [(0, .ref 123), (1, .int (nI h)), (2, .int x), (3, .int (nI k)), (4, .int v11)] [] m8) ∧ (r9 = 0 → Sp E MX11_start [.ref 123, .int (nI l)] m8 (fun v m12 => ∃ r13 : Int32, v = some (.int r13) ∧ ((¬ r13 = (nI k - nI k / 8 * 8) → ∀ v15 : Int32, v15 = nI l + 1 → Ex E MX11_findErrands (fun v ν => v = none ∧ ((∀ s t, s < 12 → t < 8 → ν.1 138 (8 * s + t) = nI (eV L S h s t)) ∧ ML ν L ∧ Fr SQ μ ν)) 59 [(0, .ref 123), (1, .int (nI h)), (2, .int x), (3, .int (nI k)), (4, .int v15)] [] m12) ∧ (r13 = (nI k - nI k / 8 * 8) → ((96 ≤ v7 → ∀ v17 : Int32, v17 = nI l + 1 → Ex E MX11_findErrands (fun v ν => v = none ∧ ((∀ s t, s < 12 → t < 8 → ν.1 138 (8 * s + t) = nI (eV L S h s t)) ∧ ML ν L ∧ Fr SQ μ ν)) 59 [(0, .ref 123), (1, .int (nI h)), (2, .int x), (3, .int (nI k)), (4, .int v17)] [] m12) ∧ (¬ 96 ≤ v7 → vp_in (nI k) 96 ∧ (vp_in v7 96 ∧ ((((m12.1 138 v7.toNatClampNeg) ≤ ((m12.1 138 (nI k).toNatClampNeg) + 1) → ∀ v21 : Int32, v21 = nI l + 1 → Ex E MX11_findErrands (fun v ν => v = none ∧ ((∀ s t, s < 12 → t < 8 → ν.1 138 (8 * s + t) = nI (eV L S h s t)) ∧ ML ν L ∧ Fr SQ μ ν)) 59 [(0, .ref 123), (1, .int (nI h)), (2, .int x), (3, .int (nI k)), (4, .int v21)] [] m12) ∧ (¬ (m12.1 138 v7.toNatClampNeg) ≤ ((m12.1 138 (nI k).toNatClampNeg) + 1) → ∀ v22 : Int32, v22 = (m12.1 138 (nI k).toNatClampNeg) + 1 → ∀ v23 : Int32, v23 = nI l + 1 → Ex E MX11_findErrands (fun v ν => v = none ∧ ((∀ s t, s < 12 → t < 8 → ν.1 138 (8 * s + t) = nI (eV L S h s t)) ∧ ML ν L ∧ Fr SQ μ ν)) 59 [(0, .ref 123), (1, .int (nI h)), (2, .int 1), (3, .int (nI k)), (4, .int v23)] [] (mI m12 138 v7.toNatClampNeg v22))))))))))))) := by
                intro v7 e7
                subst e7
                have lt : lTo L k l < 200 := by unfold lTo; split <;> omega
                rw [n_divc (by omega) (by decide) (by decide)]
                refine Rt.i (cM_isShut hS s (by omega)) ?_
                rw [b2_0]
                refine ⟨fun z => skip (fun w => absurd (by rw [w]; exact fun w => by cases w) z), fun z => Rt.i (cM_start M l2) ?_⟩
                simp (disch := omega) only [n_divc, n_mod8, n_eq, n_cle, n_in, nI_clamp]
                have z : S.testBit (l / 2) = false := by simpa using z
                refine ⟨fun z2 => skip (fun _ w => absurd w z2), fun z2 => ⟨fun z3 => skip (fun _ _ w => by omega), fun z3 => ⟨k96, by omega, ?_⟩⟩⟩
                have ft := (hd (lTo L k l) (by omega)).1
                rw [hm k k96, hm _ (by omega), n_addc, n_le (by omega) (by omega)]
                refine ⟨fun z4 => skip (fun _ _ _ => z4), fun z4 v22 e22 v23 e23 => ?_⟩
                rw [e22, e23, n_addc]
                have hlt := (nS_up (F := F) (j := lTo L k l) (v := F k + 1) (by omega) 96).2 (by omega)
                refine ihl (l + 1) (up F (lTo L k l) (F k + 1)) _ 1 (by omega) (gSd_up hL hd k96 l2 z z2 (by omega) (by omega)) (fun i hi => ?_) (Fr.tr hf (Fr.I rfl)) (Or.inr ⟨rfl, ?_⟩)
                · rw [mI_1]
                  show _ = nI (if i = lTo L k l then F k + 1 else F i)
                  by_cases c : i = lTo L k l
                  · rw [if_pos ⟨rfl, c⟩, if_pos c]
                  · rw [if_neg (fun w => c w.2), if_neg c]
                    exact hm i hi
                · rcases hx with ⟨_, w2, _⟩ | ⟨_, w⟩
                  · rw [← w2]; exact hlt
                  · omega
              refine gX11_findErrands_59 ?_
              rw [M.2.2.2.1, n_cmul, n_le (by omega) (by omega)]
              have rw132 : m.1 132 ((nI l / 2).toNatClampNeg) = if L.2.2.2.1 (l / 2) then 1 else 0 := by
                rw [n_divc (by omega) (by decide) (by decide), nI_clamp (by omega)]
                exact q5
              have in9 : vp_in (nI l / 2) 9 := by
                rw [n_divc (by omega) (by decide) (by decide), n_in (by omega) (by decide)]
                omega
              rw [rw132]
              refine ⟨fun z => by omega, fun _ => ⟨in9, fun z => Rt.i (cM_end M l2) (fun v7 e7 => tail v7 ?_), fun z => Rt.i (cM_end M l2) (fun v7 e7 => tail v7 ?_)⟩⟩
              · have hw : lW L l = false := by
                  unfold lW
                  cases c : L.2.2.2.1 (l / 2) with
                  | false => rfl
                  | true => rw [c] at z; exact absurd z (by decide)
                rw [e7, n_divc (by omega) (by decide) (by decide), n_addc, n_cmul, nI_add]
                unfold lTo
                rw [hw]
                rfl
              · have hw : lW L l = true := by
                  unfold lW
                  cases c : L.2.2.2.1 (l / 2) with
                  | true => rfl
                  | false => rw [c] at z; exact absurd rfl z
                rw [e7, n_divc (by omega) (by decide) (by decide), n_addc, n_cmul, nI_add]
                unfold lTo
                rw [hw]
                rfl
          refine gX11_findErrands_50 ?_
          rw [n_cle (by omega) (by decide)]
          refine ⟨fun z => absurd (show 96 ≤ k from z) (by omega), fun _ => ll (2 * L.1) 0 F m x (by omega) hd hm hf (hx.imp (fun ⟨w1, w2, w3⟩ => ⟨w1, w2, w3, fun i hi => by omega⟩) id)⟩
      refine gX11_findErrands_42 ⟨fun z => absurd z (by decide), fun _ => kk 96 0 F0 m 0 rfl hd0 hm0 hf0 (Or.inl ⟨rfl, rfl, fun j l hj => by omega⟩)⟩
  have ini : ∀ n k m, k + n = 96 → Fr S138 m1 m → (∀ i, i < k → m.1 138 i = nI (if i % 8 = h then 0 else 1000)) → Ex E MX11_findErrands (fun v ν => v = none ∧ ((∀ s t, s < 12 → t < 8 → ν.1 138 (8 * s + t) = nI (eV L S h s t)) ∧ ML ν L ∧ Fr SQ μ ν)) 7 [(0, .ref 123), (1, .int (nI h)), (2, .int (nI k))] [] m := by
    intro n
    induction n with
    | zero =>
      intro k m hk hf hm
      have : k = 96 := by omega
      subst this
      refine gX11_findErrands_7 ⟨fun _ => pass _ (fun i => if i % 8 = h then 0 else 1000) (Nat.lt_succ_self _) (fun i hi => ?_) m hm hf, fun z => absurd (by decide) z⟩
      by_cases c : i % 8 = h
      · simp only [if_pos c]
        exact ⟨by omega, fun _ => c, fun _ => trivial⟩
      · simp only [if_neg c]
        exact ⟨by omega, fun w => by omega, fun w => absurd w c⟩
    | succ n ih =>
      intro k m hk hf hm
      have nx : ∀ x, x = (if k % 8 = h then 0 else 1000) → ∀ v : Int32, v = nI k + 1 → Ex E MX11_findErrands (fun v ν => v = none ∧ ((∀ s t, s < 12 → t < 8 → ν.1 138 (8 * s + t) = nI (eV L S h s t)) ∧ ML ν L ∧ Fr SQ μ ν)) 7 [(0, .ref 123), (1, .int (nI h)), (2, .int v)] [] (mI m 138 k (nI x)) := by
        intro x hx v hv
        rw [hv, n_addc]
        refine ih (k + 1) _ (by omega) (Fr.tr hf (Fr.I rfl)) (fun i hi => ?_)
        rw [mI_1]
        by_cases c : i = k
        · rw [if_pos ⟨rfl, c⟩, hx, c]
        · rw [if_neg (fun w => c w.2)]
          exact hm i (by omega)
      refine gX11_findErrands_7 ?_
      simp (disch := omega) only [n_cle, n_divc, n_mod8, n_eq, n_in, nI_clamp]
      refine ⟨fun z => by omega, fun _ => ⟨fun z => ⟨by omega, nx 1000 (by rw [if_neg z])⟩, fun z => ⟨by omega, nx 0 (by rw [if_pos z])⟩⟩⟩
  exact ini 96 0 m1 rfl Fr.rf (fun i hi => by omega)
end ERRM
