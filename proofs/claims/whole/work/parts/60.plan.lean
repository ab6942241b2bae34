/-! the letters that are needed between two papers -/
def btN (p q : PA) : Nat := (p.1 - al p q) + (q.1 - al p q)
def btA (p q : PA) (i : Nat) : Nat := if i < p.1 - al p q then bk (p.2 (p.1 - 1 - i)) else q.2 (al p q + (i - (p.1 - al p q)))
theorem btA_lt {p q : PA} {g m n : Nat} (hp : Pok g m p) (hq : Pok g n q) {i : Nat} (hi : i < btN p q) : btA p q i < 2 * g := by
  have := al_le p q
  unfold btN at hi
  unfold btA
  by_cases c : i < p.1 - al p q
  · rw [if_pos c]
    exact bk_lt (hp.2 _ (by omega))
  · rw [if_neg c]
    exact hq.2 _ (by omega)
theorem dec1 {k : Nat} : nI k + (-1) = nI k - 1 := (Int32.sub_eq_add_neg _ _).symm
section PLAN
variable {E : EV} {μ ν : Mem} {L : LD} {S : Nat} {tn : Nat → Nat} {tb : Nat → Nat → Nat} {p q : PA} {g m n : Nat}
def OLm (L : LD) (S : Nat) : Nat := OGm L S &&& (4294967295 - wb L.1 L.2.2.2.1)
theorem OLm_lt (hg : L.1 ≤ 9) : OLm L S < 512 := by
  have := OGm_lt (S := S) hg
  have := Nat.and_le_left (n := OGm L S) (m := 4294967295 - wb L.1 L.2.2.2.1)
  unfold OLm
  omega
theorem wb_512 (hg : L.1 ≤ 9) : wb L.1 L.2.2.2.1 < 512 := Nat.lt_of_lt_of_le (wb_lt _ _) (p9 hg).1
theorem OLm_ok (hg : L.1 ≤ 9) (hS : S < 512) : ∀ k, k < L.1 → ((OLm L S).testBit k = true ↔ pU L S k) := by
  intro k hk
  have := wb_512 hg
  unfold OLm
  rw [Nat.testBit_and, OGm_bit hg hS hk, tb_not9 (by omega) (by omega), wb_bit, decide_eq_true hk]
  unfold pU
  simp
  exact ⟨fun w => ⟨w.2, w.1⟩, fun w => ⟨w.2, w.1⟩⟩
theorem cL_openLanes (hC : CL μ L) (hS : S < 512) (h3 : μ.1 1 3 = nI S) : Rt E MX3_openLanes [.ref 1] μ (some (.int (nI (OLm L S)))) μ := by
  have hg := hC.1
  have := p9 hg
  have w5 := wb_512 hg
  have o5 := OGm_lt (S := S) hg
  refine Sp.go rfl rfl rfl (gX3_openLanes_0 ⟨?_, rfl⟩)
  rw [hC.2.2.2.1, hC.2.2.2.2.1, h3, b_1shl (by omega), show nI (2 ^ L.1) - 1 = nI (2 ^ L.1 - 1) from pk_sub (b := 1) (by omega), b_not (by omega), b_not (by omega), b_and (by omega) (by omega)]
  show some (Value.int (nI (OGm L S) &&& _)) = _
  rw [b_and (by omega) (by omega)]
  rfl
theorem cD_lanes {d : Nat} (hd : Dok d) (h12 : 12 ≤ d) (hC : CL μ L) (hS : S < 512) : Sp E MX0_measure [.ref d, .ref 1, .int (nI (OLm L S))] μ (fun v ν => v = none ∧ (DMs ν d (lA L S) ∧ Fr (SDd d) μ ν)) := cD_measure hd h12 (OLm_lt hC.1) (OLm_ok hC.1 hS) hC
theorem Dk12 : Dok 12 := ⟨by decide, by decide, by decide, by decide⟩
theorem cR_need {x : Int32} (hn : μ.1 11 3 = nI n) (h : n < 120) : Rt E MX6_need [.ref 11, .int x] μ none (mI (mI μ 24 n x) 11 3 (nI (n + 1))) := by
  refine Sp.go rfl rfl rfl (gX6_need_0 ?_)
  rw [hn]
  simp (disch := omega) only [n_cle, n_in, nI_clamp]
  refine ⟨fun z => by omega, fun _ => ⟨h, fun v3 e3 => ⟨trivial, ?_⟩⟩⟩
  rw [e3, rd1 (by omega), hn, n_addc]
def SRt (o _k : Nat) : Prop := 11 ≤ o ∧ o ≤ 26
def SRn (o _k : Nat) : Prop := o = 11 ∨ o = 24
theorem SRt_SQ {o k : Nat} (h : SRt o k) : SQ o k := by unfold SRt at h; unfold SQ; omega
def NDc (m : Mem) (N : Nat) (B : Nat → Nat) : Prop := m.1 11 3 = nI N ∧ ∀ i, i < N → m.1 24 i = nI (B i)
def NDm (m : Mem) (N : Nat) (B : Nat → Nat) : Prop := m.1 123 20 = nI N ∧ ∀ i, i < N → m.1 137 i = nI (B i)
theorem cR_plan (h : RC μ tn tb S) (hP : PCl μ 4 p) (hQ : PCl μ 6 q) (hp : Pok (LN tn tb).1 30 p) (hq : Pok (LN tn tb).1 30 q) : Sp E MX6_plan [.ref 11, .ref 4, .ref 6] μ (fun v ν => v = none ∧ (NDc ν (btN p q) (btA p q) ∧ DMs ν 12 (lA (LN tn tb) S) ∧ Fr SRt μ ν)) := by
  have h9 := h.2.1.1
  have hS := h.2.2.2.1
  obtain ⟨ap, aq⟩ := al_le p q
  have p30 := hp.1
  have q30 := hq.1
  have k4 : kd 4 = 5 := by decide
  have k6 : kd 6 = 5 := by decide
  refine Sp.go rfl rfl rfl (gX6_plan_0 k4 k6 (Rt.i (cL_openLanes h.2.1 hS h.2.2.2.2.1) (Sp.v (cD_lanes Dk12 (by decide) h.2.1 hS) (fun m3 h3 => ?_))))
  have P3 : PCl (mI m3 11 3 0) 4 p := (hP.fr h3.2 (by unfold SDd; omega) (fun k => by unfold SDd; omega)).fr (Fr.I (S := SRn) (Or.inl rfl)) (by unfold SRn; omega) (fun k => by unfold SRn; omega)
  have Q3 : PCl (mI m3 11 3 0) 6 q := (hQ.fr h3.2 (by unfold SDd; omega) (fun k => by unfold SDd; omega)).fr (Fr.I (S := SRn) (Or.inl rfl)) (by unfold SRn; omega) (fun k => by unfold SRn; omega)
  have F3 : Fr SRn m3 (mI m3 11 3 0) := Fr.I (Or.inl rfl)
  have fin : ∀ m, Fr SRn m3 m → NDc m (btN p q) (btA p q) → (none : Option Value) = none ∧ (NDc m (btN p q) (btA p q) ∧ DMs m 12 (lA (LN tn tb) S) ∧ Fr SRt μ m) := fun m hf hn => ⟨rfl, hn, Fr.DMs h3.1 hf (fun a k ha => by unfold SRn; omega), Fr.tr (h3.2.up (fun o k w => by unfold SDd at w; unfold SRt; omega)) (hf.up (fun o k w => by unfold SRn at w; unfold SRt; omega))⟩
  refine Rt.i (cP_alike k4 k6 P3 Q3 hp hq h9 (by omega) (by omega)) (Rt.i (cP_size k4) ?_)
  rw [P3.1]
  intro v8 e8
  have kq : ∀ d i m, i + d = q.1 - al p q → m.1 11 3 = nI (p.1 - al p q + i) → (∀ j, j < p.1 - al p q + i → m.1 24 j = nI (btA p q j)) → Fr SRn m3 m → Ex E MX6_plan (fun v ν => v = none ∧ (NDc ν (btN p q) (btA p q) ∧ DMs ν 12 (lA (LN tn tb) S) ∧ Fr SRt μ ν)) 64 [(0, .ref 11), (1, .ref 4), (2, .ref 6), (3, .int (nI (al p q))), (4, .int (nI (al p q + i)))] [] m := by
    intro d
    induction d with
    | zero =>
      intro i m hi hn hB hf
      have Qm : PCl m 6 q := (hQ.fr h3.2 (by unfold SDd; omega) (fun k => by unfold SDd; omega)).fr hf (by unfold SRn; omega) (fun k => by unfold SRn; omega)
      refine gX6_plan_64 k4 k6 (Rt.i (cP_size k6) ?_)
      rw [Qm.1, n_le (by omega) (by omega)]
      refine ⟨fun _ => fin m hf ⟨?_, fun j hj => hB j ?_⟩, fun z => by omega⟩
      · rw [hn]; unfold btN; congr 1; omega
      · unfold btN at hj; omega
    | succ d ih =>
      intro i m hi hn hB hf
      have Qm : PCl m 6 q := (hQ.fr h3.2 (by unfold SDd; omega) (fun k => by unfold SDd; omega)).fr hf (by unfold SRn; omega) (fun k => by unfold SRn; omega)
      refine gX6_plan_64 k4 k6 (Rt.i (cP_size k6) ?_)
      rw [Qm.1, n_le (by omega) (by omega)]
      refine ⟨fun z => by omega, fun _ => Rt.i (cP_atP k6 Qm (by omega) (by omega)) (Rt.v (cR_need hn (by omega)) (fun v7 e7 => ?_))⟩
      rw [e7, n_addc, Nat.add_assoc, if_pos (by omega)]
      refine ih (i + 1) _ (by omega) (by rw [rde, Nat.add_assoc]) (fun j hj => ?_) (Fr.tr hf (Fr.tr (Fr.I (Or.inr rfl)) (Fr.I (Or.inl rfl))))
      rw [rd1 (by omega), mI_1]
      by_cases c : j = p.1 - al p q + i
      · rw [if_pos ⟨rfl, c⟩]
        unfold btA
        rw [if_neg (by omega), show al p q + (j - (p.1 - al p q)) = al p q + i by omega]
      · rw [if_neg (fun w => c w.2)]
        exact hB j (by omega)
  have kp : ∀ d i m, i + d = p.1 - al p q → m.1 11 3 = nI i → (∀ j, j < i → m.1 24 j = nI (btA p q j)) → Fr SRn m3 m → Ex E MX6_plan (fun v ν => v = none ∧ (NDc ν (btN p q) (btA p q) ∧ DMs ν 12 (lA (LN tn tb) S) ∧ Fr SRt μ ν)) 37 [(0, .ref 11), (1, .ref 4), (2, .ref 6), (3, .int (nI (al p q))), (4, .int (nI (p.1 - i) - 1))] [] m := by
    intro d
    induction d with
    | zero =>
      intro i m hi hn hB hf
      refine gX6_plan_37 k4 k6 ⟨fun _ => ?_, fun z => ?_⟩
      · refine kq (q.1 - al p q) 0 m (by omega) ?_ (fun j hj => hB j (by omega)) hf
        rw [hn, show p.1 - al p q + 0 = i by omega]
      · refine absurd ?_ z
        have ee : (nI (p.1 - i) - 1).toInt = _ := pk_sub_toInt (a := p.1 - i) (b := 1) (by omega) (by omega)
        rw [i_lt, ee, nI_toInt (by omega)]
        omega
    | succ d ih =>
      intro i m hi hn hB hf
      have Pm : PCl m 4 p := (hP.fr h3.2 (by unfold SDd; omega) (fun k => by unfold SDd; omega)).fr hf (by unfold SRn; omega) (fun k => by unfold SRn; omega)
      rw [show nI (p.1 - i) - 1 = nI (p.1 - 1 - i) from (pk_sub (b := 1) (by omega)).trans (by congr 1; omega)]
      refine gX6_plan_37 k4 k6 ?_
      rw [n_lt (by omega) (by omega)]
      refine ⟨fun z => by omega, fun _ => Rt.i (cP_atP k4 Pm (by omega) (by omega)) ?_⟩
      have bl := hp.2 (p.1 - 1 - i) (by omega)
      rw [if_pos (by omega), bk_x0 _ (by omega)]
      refine Rt.v (cR_need hn (by omega)) (fun v5 e5 => ?_)
      rw [e5, dec1, show p.1 - 1 - i = p.1 - (i + 1) by omega]
      refine ih (i + 1) _ (by omega) rde (fun j hj => ?_) (Fr.tr hf (Fr.tr (Fr.I (Or.inr rfl)) (Fr.I (Or.inl rfl))))
      rw [rd1 (by omega), mI_1]
      by_cases c : j = i
      · rw [if_pos ⟨rfl, c⟩]
        unfold btA
        rw [if_pos (by omega), c, show p.1 - 1 - i = p.1 - (i + 1) by omega]
      · rw [if_neg (fun w => c w.2)]
        exact hB j (by omega)
  rw [e8]
  exact kp (p.1 - al p q) 0 _ (by omega) rde (fun j hj => by omega) F3
def S37 (o k : Nat) : Prop := o = 137 ∨ (o = 123 ∧ k = 20)
theorem cM_findBetween (hP : PMd μ 0 p) (hQ : PMd μ 1 q) (hp : Pok g 30 p) (hq : Pok g 30 q) (h9 : g ≤ 9) : Sp E MX11_findBetween [.ref 123] μ (fun v ν => v = none ∧ (NDm ν (btN p q) (btA p q) ∧ Fr S37 μ ν)) := by
  obtain ⟨ap, aq⟩ := al_le p q
  have p30 := hp.1
  have q30 := hq.1
  refine Sp.go rfl rfl rfl (gX11_findBetween_0 (Rt.i (cM_alike hP hQ hp hq h9 (by omega) (by omega)) (fun v3 e3 => ?_)))
  have pm : ∀ m, Fr S37 μ m → PMd m 0 p ∧ PMd m 1 q := fun m hf => ⟨hP.fr (by omega) hf (by unfold S37; omega) (fun k _ _ => by unfold S37; omega), hQ.fr (by omega) hf (by unfold S37; omega) (fun k _ _ => by unfold S37; omega)⟩
  have F3 : Fr S37 μ (mI μ 123 20 0) := Fr.I (Or.inr ⟨rfl, rfl⟩)
  rw [(pm _ F3).1.1] at e3
  have kq : ∀ d i m, i + d = q.1 - al p q → m.1 123 20 = nI (p.1 - al p q + i) → (∀ j, j < p.1 - al p q + i → m.1 137 j = nI (btA p q j)) → Fr S37 μ m → Ex E MX11_findBetween (fun v ν => v = none ∧ (NDm ν (btN p q) (btA p q) ∧ Fr S37 μ ν)) 60 [(0, .ref 123), (1, .int (nI (al p q))), (2, .int (nI (al p q + i)))] [] m := by
    intro d
    induction d with
    | zero =>
      intro i m hi hn hB hf
      refine gX11_findBetween_60 ?_
      rw [(pm m hf).2.1, n_le (by omega) (by omega)]
      refine ⟨fun _ => ⟨rfl, ⟨?_, fun j hj => hB j ?_⟩, hf⟩, fun z => by omega⟩
      · rw [hn]; unfold btN; congr 1; omega
      · unfold btN at hj; omega
    | succ d ih =>
      intro i m hi hn hB hf
      refine gX11_findBetween_60 ?_
      rw [(pm m hf).2.1, n_le (by omega) (by omega), hn]
      simp (disch := omega) only [n_cadd, n_in, nI_clamp]
      refine ⟨fun z => by omega, fun _ => ⟨by omega, fun v3 e3 => ⟨by omega, fun v5 e5 v6 e6 => ?_⟩⟩⟩
      have r := (pm m hf).2.2 (al p q + i) (by omega)
      rw [show 60 * 1 + (al p q + i) = 60 + (al p q + i) by omega] at r
      rw [rd1 (by omega), hn, n_addc] at e5
      rw [e6, e5, n_addc, Nat.add_assoc]
      refine ih (i + 1) _ (by omega) (by rw [rde, Nat.add_assoc]) (fun j hj => ?_) (Fr.tr hf (Fr.tr (Fr.I (Or.inl rfl)) (Fr.I (Or.inr ⟨rfl, rfl⟩))))
      rw [rd1 (by omega), mI_1]
      by_cases c : j = p.1 - al p q + i
      · rw [if_pos ⟨rfl, c⟩, e3, r]
        unfold btA
        rw [if_neg (by omega), show al p q + (j - (p.1 - al p q)) = al p q + i by omega]
      · rw [if_neg (fun w => c w.2)]
        exact hB j (by omega)
  have kp : ∀ d i m, i + d = p.1 - al p q → m.1 123 20 = nI i → (∀ j, j < i → m.1 137 j = nI (btA p q j)) → Fr S37 μ m → Ex E MX11_findBetween (fun v ν => v = none ∧ (NDm ν (btN p q) (btA p q) ∧ Fr S37 μ ν)) 19 [(0, .ref 123), (1, .int (nI (al p q))), (2, .int (nI (p.1 - i) - 1))] [] m := by
    intro d
    induction d with
    | zero =>
      intro i m hi hn hB hf
      refine gX11_findBetween_19 ⟨fun _ => ?_, fun z => ?_⟩
      · refine kq (q.1 - al p q) 0 m (by omega) ?_ (fun j hj => hB j (by omega)) hf
        rw [hn, show p.1 - al p q + 0 = i by omega]
      · refine absurd ?_ z
        have ee : (nI (p.1 - i) - 1).toInt = _ := pk_sub_toInt (a := p.1 - i) (b := 1) (by omega) (by omega)
        rw [i_lt, ee, nI_toInt (by omega)]
        omega
    | succ d ih =>
      intro i m hi hn hB hf
      rw [show nI (p.1 - i) - 1 = nI (p.1 - 1 - i) from (pk_sub (b := 1) (by omega)).trans (by congr 1; omega)]
      refine gX11_findBetween_19 ?_
      rw [n_lt (by omega) (by omega), hn]
      simp (disch := omega) only [n_in, nI_clamp]
      have r := (pm m hf).1.2 (p.1 - 1 - i) (by omega)
      rw [show 60 * 0 + (p.1 - 1 - i) = p.1 - 1 - i by omega] at r
      have bl := hp.2 (p.1 - 1 - i) (by omega)
      rw [r]
      refine ⟨fun z => by omega, fun _ => ⟨by omega, Rt.i (cM_back (by omega)) ⟨by omega, fun v6 e6 v7 e7 => ?_⟩⟩⟩
      rw [rd1 (by omega), hn, n_addc] at e6
      rw [e7, e6, dec1, show p.1 - 1 - i = p.1 - (i + 1) by omega]
      refine ih (i + 1) _ (by omega) rde (fun j hj => ?_) (Fr.tr hf (Fr.tr (Fr.I (Or.inl rfl)) (Fr.I (Or.inr ⟨rfl, rfl⟩))))
      rw [rd1 (by omega), mI_1]
      by_cases c : j = i
      · rw [if_pos ⟨rfl, c⟩]
        unfold btA
        rw [if_pos (by omega), c, show p.1 - 1 - i = p.1 - (i + 1) by omega]
      · rw [if_neg (fun w => c w.2)]
        exact hB j (by omega)
  rw [e3]
  exact kp (p.1 - al p q) 0 _ (by omega) rde (fun j hj => by omega) F3
end PLAN
