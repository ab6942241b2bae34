section LAWCASES
variable {E : EV} {b L : Nat} {xs : Nat → Int32} {cs sl : Nat} {μ : Mem} {i : Nat}
theorem li_in {j : Nat} (h : i + 6 ≤ L) (hL : L ≤ 3072) (hj : j ≤ 5) : vp_in (nI i + nI j) L := by
  rw [nI_add, n_in (by omega) (by omega)]
  omega
theorem law_type (hi : i + 6 ≤ L) (hL : L ≤ 3072) (hcs : cs ≤ 600000) (hsl : sl ≤ 7302250) (hv : Inv μ) (k : ∀ ξ, Inv ξ → Lx E b L xs cs sl 1302 (nI i) [] ξ) : Lx E b L xs cs sl 180 (nI i) [] μ := by
  obtain ⟨⟨tn, tb, S, h1⟩, h2, s, h3⟩ := id hv
  refine L_al1 (dk zLw0 22 rfl) ?_
  refine L_arg (v := nI 1) rfl (li_in hi hL (by decide)) (dk zLw0 23 rfl) (dk zLw0 24 rfl) (dk zLw0 25 rfl) (dk zLw0 26 rfl) (dk zLw0 27 rfl) ?_
  refine L_arg (v := nI 2) rfl (li_in hi hL (by decide)) (dk zLw0 28 rfl) (dk zLw0 29 rfl) (dk zLw0 30 rfl) (dk zLw0 31 rfl) (dk zLw0 32 rfl) ?_
  refine L_callV (as := [.int (xs (nI i + nI 1).toNatClampNeg), .int (xs (nI i + nI 2).toNatClampNeg)]) (o := 0) (ci := 10) (st := []) okRL_13 npX10_type (by decide) rfl (by decide) rfl (by decide) hcs hsl (dk zLw0 33 rfl) ?_
  refine Sp.mono (op_type h1 (xs (nI i + nI 1).toNatClampNeg) (xs (nI i + nI 2).toNatClampNeg)) (fun v ν hq => ?_)
  obtain ⟨r, rfl, hM⟩ := hq
  refine L_al2 (dk zLw0 34 rfl) ?_
  refine L_arg (v := nI 1) rfl (li_in hi hL (by decide)) (dk zLw0 35 rfl) (dk zLw0 36 rfl) (dk zLw0 37 rfl) (dk zLw0 38 rfl) (dk zLw0 39 rfl) ?_
  refine L_arg (v := nI 2) rfl (li_in hi hL (by decide)) (dk zLw0 40 rfl) (dk zLw0 41 rfl) (dk zLw0 42 rfl) (dk zLw0 43 rfl) (dk zLw0 44 rfl) ?_
  refine L_callV (as := [.int (xs (nI i + nI 1).toNatClampNeg), .int (xs (nI i + nI 2).toNatClampNeg)]) (o := 123) (ci := 11) (st := [.int r]) okRL_17 npX11_type (by decide) rfl (by decide) rfl (Nat.le_of_ble_eq_true rfl) hcs hsl (dk zLw0 45 rfl) ?_
  refine Sp.mono hM (fun v ξ hq => ?_)
  obtain ⟨rfl, hP⟩ := hq
  exact L_eqI (tgt := 1302) (by decide) (dk zLw0 46 rfl) (k ξ (hv.t (by obtain ⟨tn', tb', w⟩ := hP.1; exact ⟨tn', tb', _, w⟩) hP.2))
theorem law_wipe (hi : i + 6 ≤ L) (hL : L ≤ 3072) (hcs : cs ≤ 600000) (hsl : sl ≤ 7302250) (hv : Inv μ) (k : ∀ ξ, Inv ξ → Lx E b L xs cs sl 1302 (nI i) [] ξ) : Lx E b L xs cs sl 213 (nI i) [] μ := by
  obtain ⟨⟨tn, tb, S, h1⟩, h2, s, h3⟩ := id hv
  refine L_al1 (dk zLw0 49 rfl) ?_
  refine L_arg (v := nI 1) rfl (li_in hi hL (by decide)) (dk zLw0 50 rfl) (dk zLw0 51 rfl) (dk zLw0 52 rfl) (dk zLw0 53 rfl) (dk zLw0 54 rfl) ?_
  refine L_callV (as := [.int (xs (nI i + nI 1).toNatClampNeg)]) (o := 0) (ci := 10) (st := []) okRL_18 npX10_wipe (by decide) rfl (by decide) rfl (by decide) hcs hsl (dk zLw0 55 rfl) ?_
  refine Sp.mono (op_wipe h1 (xs (nI i + nI 1).toNatClampNeg)) (fun v ν hq => ?_)
  obtain ⟨r, rfl, hM⟩ := hq
  refine L_al2 (dk zLw0 56 rfl) ?_
  refine L_arg (v := nI 1) rfl (li_in hi hL (by decide)) (dk zLw0 57 rfl) (dk zLw0 58 rfl) (dk zLw0 59 rfl) (dk zLw0 60 rfl) (dk zLw0 61 rfl) ?_
  refine L_callV (as := [.int (xs (nI i + nI 1).toNatClampNeg)]) (o := 123) (ci := 11) (st := [.int r]) okRL_22 npX11_wipe (by decide) rfl (by decide) rfl (Nat.le_of_ble_eq_true rfl) hcs hsl (dk zLw0 62 rfl) ?_
  refine Sp.mono hM (fun v ξ hq => ?_)
  obtain ⟨rfl, hP⟩ := hq
  exact L_eqI (tgt := 1302) (by decide) (dk zLw0 63 rfl) (k ξ (hv.t (by obtain ⟨tn', tb', w⟩ := hP.1; exact ⟨tn', tb', _, w⟩) hP.2))
theorem law_fault (hi : i + 6 ≤ L) (hL : L ≤ 3072) (hcs : cs ≤ 600000) (hsl : sl ≤ 7302250) (hv : Inv μ) (k : ∀ ξ, Inv ξ → Lx E b L xs cs sl 1302 (nI i) [] ξ) : Lx E b L xs cs sl 236 (nI i) [] μ := by
  obtain ⟨⟨tn, tb, S, h1⟩, h2, s, h3⟩ := id hv
  refine L_al1 (dk zLw1 2 rfl) ?_
  refine L_arg (v := nI 1) rfl (li_in hi hL (by decide)) (dk zLw1 3 rfl) (dk zLw1 4 rfl) (dk zLw1 5 rfl) (dk zLw1 6 rfl) (dk zLw1 7 rfl) ?_
  refine L_callV (as := [.int (xs (nI i + nI 1).toNatClampNeg)]) (o := 0) (ci := 10) (st := []) okRL_23 npX10_fault (by decide) rfl (by decide) rfl (by decide) hcs hsl (dk zLw1 8 rfl) ?_
  refine Sp.mono (op_fault h1 (xs (nI i + nI 1).toNatClampNeg)) (fun v ν hq => ?_)
  obtain ⟨r, rfl, hM⟩ := hq
  refine L_al2 (dk zLw1 9 rfl) ?_
  refine L_arg (v := nI 1) rfl (li_in hi hL (by decide)) (dk zLw1 10 rfl) (dk zLw1 11 rfl) (dk zLw1 12 rfl) (dk zLw1 13 rfl) (dk zLw1 14 rfl) ?_
  refine L_callV (as := [.int (xs (nI i + nI 1).toNatClampNeg)]) (o := 123) (ci := 11) (st := [.int r]) okRL_26 npX11_fault (by decide) rfl (by decide) rfl (Nat.le_of_ble_eq_true rfl) hcs hsl (dk zLw1 15 rfl) ?_
  refine Sp.mono hM (fun v ξ hq => ?_)
  obtain ⟨rfl, hP⟩ := hq
  exact L_eqI (tgt := 1302) (by decide) (dk zLw1 16 rfl) (k ξ (hv.q hP))
theorem law_gate (hi : i + 6 ≤ L) (hL : L ≤ 3072) (hcs : cs ≤ 600000) (hsl : sl ≤ 7302250) (hv : Inv μ) (k : ∀ ξ, Inv ξ → Lx E b L xs cs sl 1302 (nI i) [] ξ) : Lx E b L xs cs sl 259 (nI i) [] μ := by
  obtain ⟨⟨tn, tb, S, h1⟩, h2, s, h3⟩ := id hv
  refine L_al1 (dk zLw1 19 rfl) ?_
  refine L_arg (v := nI 1) rfl (li_in hi hL (by decide)) (dk zLw1 20 rfl) (dk zLw1 21 rfl) (dk zLw1 22 rfl) (dk zLw1 23 rfl) (dk zLw1 24 rfl) ?_
  refine L_arg (v := nI 2) rfl (li_in hi hL (by decide)) (dk zLw1 25 rfl) (dk zLw1 26 rfl) (dk zLw1 27 rfl) (dk zLw1 28 rfl) (dk zLw1 29 rfl) ?_
  refine L_callV (as := [.int (xs (nI i + nI 1).toNatClampNeg), .int (xs (nI i + nI 2).toNatClampNeg)]) (o := 0) (ci := 10) (st := []) okRL_27 npX10_gate (by decide) rfl (by decide) rfl (by decide) hcs hsl (dk zLw1 30 rfl) ?_
  refine Sp.mono (op_gate h1 (xs (nI i + nI 1).toNatClampNeg) (xs (nI i + nI 2).toNatClampNeg)) (fun v ν hq => ?_)
  obtain ⟨r, rfl, hM⟩ := hq
  refine L_al2 (dk zLw1 31 rfl) ?_
  refine L_arg (v := nI 1) rfl (li_in hi hL (by decide)) (dk zLw1 32 rfl) (dk zLw1 33 rfl) (dk zLw1 34 rfl) (dk zLw1 35 rfl) (dk zLw1 36 rfl) ?_
  refine L_arg (v := nI 2) rfl (li_in hi hL (by decide)) (dk zLw1 37 rfl) (dk zLw1 38 rfl) (dk zLw1 39 rfl) (dk zLw1 40 rfl) (dk zLw1 41 rfl) ?_
  refine L_callV (as := [.int (xs (nI i + nI 1).toNatClampNeg), .int (xs (nI i + nI 2).toNatClampNeg)]) (o := 123) (ci := 11) (st := [.int r]) okRL_30 npX11_gate (by decide) rfl (by decide) rfl (Nat.le_of_ble_eq_true rfl) hcs hsl (dk zLw1 42 rfl) ?_
  refine Sp.mono hM (fun v ξ hq => ?_)
  obtain ⟨rfl, hP⟩ := hq
  exact L_eqI (tgt := 1302) (by decide) (dk zLw1 43 rfl) (k ξ (hv.q hP))
theorem law_room (hi : i + 6 ≤ L) (hL : L ≤ 3072) (hcs : cs ≤ 600000) (hsl : sl ≤ 7302250) (hv : Inv μ) (k : ∀ ξ, Inv ξ → Lx E b L xs cs sl 1302 (nI i) [] ξ) : Lx E b L xs cs sl 292 (nI i) [] μ := by
  obtain ⟨⟨tn, tb, S, h1⟩, h2, s, h3⟩ := id hv
  refine L_al1 (dk zLw1 46 rfl) ?_
  refine L_callV (as := []) (o := 0) (ci := 10) (st := []) okRL_31 npX10_room (by decide) rfl (by decide) rfl (by decide) hcs hsl (dk zLw1 47 rfl) ?_
  refine Sp.mono (op_room h1 ) (fun v ν hq => ?_)
  obtain ⟨r, rfl, hM⟩ := hq
  refine L_al2 (dk zLw1 48 rfl) ?_
  refine L_callV (as := []) (o := 123) (ci := 11) (st := [.int r]) okRL_35 npX11_room (by decide) rfl (by decide) rfl (Nat.le_of_ble_eq_true rfl) hcs hsl (dk zLw1 49 rfl) ?_
  refine Sp.mono hM (fun v ξ hq => ?_)
  obtain ⟨rfl, hP⟩ := hq
  exact L_eqI (tgt := 1302) (by decide) (dk zLw1 50 rfl) (k ξ (hv.q hP))
theorem law_shut (hi : i + 6 ≤ L) (hL : L ≤ 3072) (hcs : cs ≤ 600000) (hsl : sl ≤ 7302250) (hv : Inv μ) (k : ∀ ξ, Inv ξ → Lx E b L xs cs sl 1302 (nI i) [] ξ) : Lx E b L xs cs sl 305 (nI i) [] μ := by
  obtain ⟨⟨tn, tb, S, h1⟩, h2, s, h3⟩ := id hv
  refine L_al1 (dk zLw1 53 rfl) ?_
  refine L_arg (v := nI 1) rfl (li_in hi hL (by decide)) (dk zLw1 54 rfl) (dk zLw1 55 rfl) (dk zLw1 56 rfl) (dk zLw1 57 rfl) (dk zLw1 58 rfl) ?_
  refine L_callV (as := [.int (xs (nI i + nI 1).toNatClampNeg)]) (o := 0) (ci := 10) (st := []) okRL_36 npX10_shut (by decide) rfl (by decide) rfl (by decide) hcs hsl (dk zLw1 59 rfl) ?_
  refine Sp.mono (op_shut h1 (xs (nI i + nI 1).toNatClampNeg)) (fun v ν hq => ?_)
  obtain ⟨r, rfl, hM⟩ := hq
  refine L_al2 (dk zLw1 60 rfl) ?_
  refine L_arg (v := nI 1) rfl (li_in hi hL (by decide)) (dk zLw1 61 rfl) (dk zLw1 62 rfl) (dk zLw1 63 rfl) (dk zLw2 0 rfl) (dk zLw2 1 rfl) ?_
  refine L_callV (as := [.int (xs (nI i + nI 1).toNatClampNeg)]) (o := 123) (ci := 11) (st := [.int r]) okRL_39 npX11_shut (by decide) rfl (by decide) rfl (Nat.le_of_ble_eq_true rfl) hcs hsl (dk zLw2 2 rfl) ?_
  refine Sp.mono hM (fun v ξ hq => ?_)
  obtain ⟨rfl, hP⟩ := hq
  exact L_eqI (tgt := 1302) (by decide) (dk zLw2 3 rfl) (k ξ (hv.sh (by obtain ⟨S', w⟩ := hP.1; exact ⟨_, _, S', w⟩) hP.2))
theorem law_paper (hi : i + 6 ≤ L) (hL : L ≤ 3072) (hcs : cs ≤ 600000) (hsl : sl ≤ 7302250) (hv : Inv μ) (k : ∀ ξ, Inv ξ → Lx E b L xs cs sl 1302 (nI i) [] ξ) : Lx E b L xs cs sl 328 (nI i) [] μ := by
  obtain ⟨⟨tn, tb, S, h1⟩, h2, s, h3⟩ := id hv
  refine L_al1 (dk zLw2 6 rfl) ?_
  refine L_arg (v := nI 1) rfl (li_in hi hL (by decide)) (dk zLw2 7 rfl) (dk zLw2 8 rfl) (dk zLw2 9 rfl) (dk zLw2 10 rfl) (dk zLw2 11 rfl) ?_
  refine L_arg (v := nI 2) rfl (li_in hi hL (by decide)) (dk zLw2 12 rfl) (dk zLw2 13 rfl) (dk zLw2 14 rfl) (dk zLw2 15 rfl) (dk zLw2 16 rfl) ?_
  refine L_callV (as := [.int (xs (nI i + nI 1).toNatClampNeg), .int (xs (nI i + nI 2).toNatClampNeg)]) (o := 0) (ci := 10) (st := []) okRL_40 npX10_paper (by decide) rfl (by decide) rfl (by decide) hcs hsl (dk zLw2 17 rfl) ?_
  refine Sp.mono (op_paper h1 (xs (nI i + nI 1).toNatClampNeg) (xs (nI i + nI 2).toNatClampNeg)) (fun v ν hq => ?_)
  obtain ⟨r, rfl, hM⟩ := hq
  refine L_al2 (dk zLw2 18 rfl) ?_
  refine L_arg (v := nI 1) rfl (li_in hi hL (by decide)) (dk zLw2 19 rfl) (dk zLw2 20 rfl) (dk zLw2 21 rfl) (dk zLw2 22 rfl) (dk zLw2 23 rfl) ?_
  refine L_arg (v := nI 2) rfl (li_in hi hL (by decide)) (dk zLw2 24 rfl) (dk zLw2 25 rfl) (dk zLw2 26 rfl) (dk zLw2 27 rfl) (dk zLw2 28 rfl) ?_
  refine L_callV (as := [.int (xs (nI i + nI 1).toNatClampNeg), .int (xs (nI i + nI 2).toNatClampNeg)]) (o := 123) (ci := 11) (st := [.int r]) okRL_43 npX11_paper (by decide) rfl (by decide) rfl (Nat.le_of_ble_eq_true rfl) hcs hsl (dk zLw2 29 rfl) ?_
  refine Sp.mono hM (fun v ξ hq => ?_)
  obtain ⟨rfl, hP⟩ := hq
  exact L_eqI (tgt := 1302) (by decide) (dk zLw2 30 rfl) (k ξ (hv.q hP))
theorem law_judged (hi : i + 6 ≤ L) (hL : L ≤ 3072) (hcs : cs ≤ 600000) (hsl : sl ≤ 7302250) (hv : Inv μ) (k : ∀ ξ, Inv ξ → Lx E b L xs cs sl 1302 (nI i) [] ξ) : Lx E b L xs cs sl 361 (nI i) [] μ := by
  obtain ⟨⟨tn, tb, S, h1⟩, h2, s, h3⟩ := id hv
  refine L_al1 (dk zLw2 33 rfl) ?_
  refine L_arg (v := nI 1) rfl (li_in hi hL (by decide)) (dk zLw2 34 rfl) (dk zLw2 35 rfl) (dk zLw2 36 rfl) (dk zLw2 37 rfl) (dk zLw2 38 rfl) ?_
  refine L_arg (v := nI 2) rfl (li_in hi hL (by decide)) (dk zLw2 39 rfl) (dk zLw2 40 rfl) (dk zLw2 41 rfl) (dk zLw2 42 rfl) (dk zLw2 43 rfl) ?_
  refine L_arg (v := nI 3) rfl (li_in hi hL (by decide)) (dk zLw2 44 rfl) (dk zLw2 45 rfl) (dk zLw2 46 rfl) (dk zLw2 47 rfl) (dk zLw2 48 rfl) ?_
  refine L_arg (v := nI 4) rfl (li_in hi hL (by decide)) (dk zLw2 49 rfl) (dk zLw2 50 rfl) (dk zLw2 51 rfl) (dk zLw2 52 rfl) (dk zLw2 53 rfl) ?_
  refine L_callV (as := [.int (xs (nI i + nI 1).toNatClampNeg), .int (xs (nI i + nI 2).toNatClampNeg), .int (xs (nI i + nI 3).toNatClampNeg), .int (xs (nI i + nI 4).toNatClampNeg)]) (o := 0) (ci := 10) (st := []) okRL_44 npX10_judged (by decide) rfl (by decide) rfl (by decide) hcs hsl (dk zLw2 54 rfl) ?_
  refine Sp.mono (op_judged h1 (xs (nI i + nI 1).toNatClampNeg) (xs (nI i + nI 2).toNatClampNeg) (xs (nI i + nI 3).toNatClampNeg) (xs (nI i + nI 4).toNatClampNeg)) (fun v ν hq => ?_)
  obtain ⟨r, rfl, hM⟩ := hq
  refine L_al2 (dk zLw2 55 rfl) ?_
  refine L_arg (v := nI 1) rfl (li_in hi hL (by decide)) (dk zLw2 56 rfl) (dk zLw2 57 rfl) (dk zLw2 58 rfl) (dk zLw2 59 rfl) (dk zLw2 60 rfl) ?_
  refine L_arg (v := nI 2) rfl (li_in hi hL (by decide)) (dk zLw2 61 rfl) (dk zLw2 62 rfl) (dk zLw2 63 rfl) (dk zLw3 0 rfl) (dk zLw3 1 rfl) ?_
  refine L_arg (v := nI 3) rfl (li_in hi hL (by decide)) (dk zLw3 2 rfl) (dk zLw3 3 rfl) (dk zLw3 4 rfl) (dk zLw3 5 rfl) (dk zLw3 6 rfl) ?_
  refine L_arg (v := nI 4) rfl (li_in hi hL (by decide)) (dk zLw3 7 rfl) (dk zLw3 8 rfl) (dk zLw3 9 rfl) (dk zLw3 10 rfl) (dk zLw3 11 rfl) ?_
  refine L_callV (as := [.int (xs (nI i + nI 1).toNatClampNeg), .int (xs (nI i + nI 2).toNatClampNeg), .int (xs (nI i + nI 3).toNatClampNeg), .int (xs (nI i + nI 4).toNatClampNeg)]) (o := 123) (ci := 11) (st := [.int r]) okRL_48 npX11_judged (by decide) rfl (by decide) rfl (Nat.le_of_ble_eq_true rfl) hcs hsl (dk zLw3 12 rfl) ?_
  refine Sp.mono hM (fun v ξ hq => ?_)
  obtain ⟨rfl, hP⟩ := hq
  exact L_eqI (tgt := 1302) (by decide) (dk zLw3 13 rfl) (k ξ (hv.q hP))
theorem law_same (hi : i + 6 ≤ L) (hL : L ≤ 3072) (hcs : cs ≤ 600000) (hsl : sl ≤ 7302250) (hv : Inv μ) (k : ∀ ξ, Inv ξ → Lx E b L xs cs sl 1302 (nI i) [] ξ) : Lx E b L xs cs sl 414 (nI i) [] μ := by
  obtain ⟨⟨tn, tb, S, h1⟩, h2, s, h3⟩ := id hv
  refine L_al1 (dk zLw3 16 rfl) ?_
  refine L_arg (v := nI 1) rfl (li_in hi hL (by decide)) (dk zLw3 17 rfl) (dk zLw3 18 rfl) (dk zLw3 19 rfl) (dk zLw3 20 rfl) (dk zLw3 21 rfl) ?_
  refine L_arg (v := nI 2) rfl (li_in hi hL (by decide)) (dk zLw3 22 rfl) (dk zLw3 23 rfl) (dk zLw3 24 rfl) (dk zLw3 25 rfl) (dk zLw3 26 rfl) ?_
  refine L_callV (as := [.int (xs (nI i + nI 1).toNatClampNeg), .int (xs (nI i + nI 2).toNatClampNeg)]) (o := 0) (ci := 10) (st := []) okRL_49 npX10_same (by decide) rfl (by decide) rfl (by decide) hcs hsl (dk zLw3 27 rfl) ?_
  refine Sp.mono (op_same h1 (xs (nI i + nI 1).toNatClampNeg) (xs (nI i + nI 2).toNatClampNeg)) (fun v ν hq => ?_)
  obtain ⟨r, rfl, hM⟩ := hq
  refine L_al2 (dk zLw3 28 rfl) ?_
  refine L_arg (v := nI 1) rfl (li_in hi hL (by decide)) (dk zLw3 29 rfl) (dk zLw3 30 rfl) (dk zLw3 31 rfl) (dk zLw3 32 rfl) (dk zLw3 33 rfl) ?_
  refine L_arg (v := nI 2) rfl (li_in hi hL (by decide)) (dk zLw3 34 rfl) (dk zLw3 35 rfl) (dk zLw3 36 rfl) (dk zLw3 37 rfl) (dk zLw3 38 rfl) ?_
  refine L_callV (as := [.int (xs (nI i + nI 1).toNatClampNeg), .int (xs (nI i + nI 2).toNatClampNeg)]) (o := 123) (ci := 11) (st := [.int r]) okRL_52 npX11_same (by decide) rfl (by decide) rfl (Nat.le_of_ble_eq_true rfl) hcs hsl (dk zLw3 39 rfl) ?_
  refine Sp.mono hM (fun v ξ hq => ?_)
  obtain ⟨rfl, hP⟩ := hq
  exact L_eqI (tgt := 1302) (by decide) (dk zLw3 40 rfl) (k ξ (hv.q hP))
theorem law_shortest (hi : i + 6 ≤ L) (hL : L ≤ 3072) (hcs : cs ≤ 600000) (hsl : sl ≤ 7302250) (hv : Inv μ) (k : ∀ ξ, Inv ξ → Lx E b L xs cs sl 1302 (nI i) [] ξ) : Lx E b L xs cs sl 447 (nI i) [] μ := by
  obtain ⟨⟨tn, tb, S, h1⟩, h2, s, h3⟩ := id hv
  refine L_al1 (dk zLw3 43 rfl) ?_
  refine L_arg (v := nI 1) rfl (li_in hi hL (by decide)) (dk zLw3 44 rfl) (dk zLw3 45 rfl) (dk zLw3 46 rfl) (dk zLw3 47 rfl) (dk zLw3 48 rfl) ?_
  refine L_arg (v := nI 2) rfl (li_in hi hL (by decide)) (dk zLw3 49 rfl) (dk zLw3 50 rfl) (dk zLw3 51 rfl) (dk zLw3 52 rfl) (dk zLw3 53 rfl) ?_
  refine L_arg (v := nI 3) rfl (li_in hi hL (by decide)) (dk zLw3 54 rfl) (dk zLw3 55 rfl) (dk zLw3 56 rfl) (dk zLw3 57 rfl) (dk zLw3 58 rfl) ?_
  refine L_arg (v := nI 4) rfl (li_in hi hL (by decide)) (dk zLw3 59 rfl) (dk zLw3 60 rfl) (dk zLw3 61 rfl) (dk zLw3 62 rfl) (dk zLw3 63 rfl) ?_
  refine L_arg (v := nI 5) rfl (li_in hi hL (by decide)) (dk zLw4 0 rfl) (dk zLw4 1 rfl) (dk zLw4 2 rfl) (dk zLw4 3 rfl) (dk zLw4 4 rfl) ?_
  refine L_callV (as := [.int (xs (nI i + nI 1).toNatClampNeg), .int (xs (nI i + nI 2).toNatClampNeg), .int (xs (nI i + nI 3).toNatClampNeg), .int (xs (nI i + nI 4).toNatClampNeg), .int (xs (nI i + nI 5).toNatClampNeg)]) (o := 0) (ci := 10) (st := []) okRL_53 npX10_shortest (by decide) rfl (by decide) rfl (by decide) hcs hsl (dk zLw4 5 rfl) ?_
  refine Sp.mono (op_shortest h1 (xs (nI i + nI 1).toNatClampNeg) (xs (nI i + nI 2).toNatClampNeg) (xs (nI i + nI 3).toNatClampNeg) (xs (nI i + nI 4).toNatClampNeg) (xs (nI i + nI 5).toNatClampNeg)) (fun v ν hq => ?_)
  obtain ⟨r, rfl, hM⟩ := hq
  refine L_al2 (dk zLw4 6 rfl) ?_
  refine L_arg (v := nI 1) rfl (li_in hi hL (by decide)) (dk zLw4 7 rfl) (dk zLw4 8 rfl) (dk zLw4 9 rfl) (dk zLw4 10 rfl) (dk zLw4 11 rfl) ?_
  refine L_arg (v := nI 2) rfl (li_in hi hL (by decide)) (dk zLw4 12 rfl) (dk zLw4 13 rfl) (dk zLw4 14 rfl) (dk zLw4 15 rfl) (dk zLw4 16 rfl) ?_
  refine L_arg (v := nI 3) rfl (li_in hi hL (by decide)) (dk zLw4 17 rfl) (dk zLw4 18 rfl) (dk zLw4 19 rfl) (dk zLw4 20 rfl) (dk zLw4 21 rfl) ?_
  refine L_arg (v := nI 4) rfl (li_in hi hL (by decide)) (dk zLw4 22 rfl) (dk zLw4 23 rfl) (dk zLw4 24 rfl) (dk zLw4 25 rfl) (dk zLw4 26 rfl) ?_
  refine L_arg (v := nI 5) rfl (li_in hi hL (by decide)) (dk zLw4 27 rfl) (dk zLw4 28 rfl) (dk zLw4 29 rfl) (dk zLw4 30 rfl) (dk zLw4 31 rfl) ?_
  refine L_callV (as := [.int (xs (nI i + nI 1).toNatClampNeg), .int (xs (nI i + nI 2).toNatClampNeg), .int (xs (nI i + nI 3).toNatClampNeg), .int (xs (nI i + nI 4).toNatClampNeg), .int (xs (nI i + nI 5).toNatClampNeg)]) (o := 123) (ci := 11) (st := [.long r]) okRL_57 npX11_shortest (by decide) rfl (by decide) rfl (Nat.le_of_ble_eq_true rfl) hcs hsl (dk zLw4 32 rfl) ?_
  refine Sp.mono hM (fun v ξ hq => ?_)
  obtain ⟨rfl, hP⟩ := hq
  exact L_eqJ (tgt := 1302) (by decide) (dk zLw4 33 rfl) (dk zLw4 34 rfl) (k ξ (hv.q hP))
theorem law_letter (hi : i + 6 ≤ L) (hL : L ≤ 3072) (hcs : cs ≤ 600000) (hsl : sl ≤ 7302250) (hv : Inv μ) (k : ∀ ξ, Inv ξ → Lx E b L xs cs sl 1302 (nI i) [] ξ) : Lx E b L xs cs sl 511 (nI i) [] μ := by
  obtain ⟨⟨tn, tb, S, h1⟩, h2, s, h3⟩ := id hv
  refine L_al1 (dk zLw4 37 rfl) ?_
  refine L_arg (v := nI 1) rfl (li_in hi hL (by decide)) (dk zLw4 38 rfl) (dk zLw4 39 rfl) (dk zLw4 40 rfl) (dk zLw4 41 rfl) (dk zLw4 42 rfl) ?_
  refine L_arg (v := nI 2) rfl (li_in hi hL (by decide)) (dk zLw4 43 rfl) (dk zLw4 44 rfl) (dk zLw4 45 rfl) (dk zLw4 46 rfl) (dk zLw4 47 rfl) ?_
  refine L_arg (v := nI 3) rfl (li_in hi hL (by decide)) (dk zLw4 48 rfl) (dk zLw4 49 rfl) (dk zLw4 50 rfl) (dk zLw4 51 rfl) (dk zLw4 52 rfl) ?_
  refine L_arg (v := nI 4) rfl (li_in hi hL (by decide)) (dk zLw4 53 rfl) (dk zLw4 54 rfl) (dk zLw4 55 rfl) (dk zLw4 56 rfl) (dk zLw4 57 rfl) ?_
  refine L_arg (v := nI 5) rfl (li_in hi hL (by decide)) (dk zLw4 58 rfl) (dk zLw4 59 rfl) (dk zLw4 60 rfl) (dk zLw4 61 rfl) (dk zLw4 62 rfl) ?_
  refine L_callV (as := [.int (xs (nI i + nI 1).toNatClampNeg), .int (xs (nI i + nI 2).toNatClampNeg), .int (xs (nI i + nI 3).toNatClampNeg), .int (xs (nI i + nI 4).toNatClampNeg), .int (xs (nI i + nI 5).toNatClampNeg)]) (o := 0) (ci := 10) (st := []) okRL_58 npX10_letter (by decide) rfl (by decide) rfl (by decide) hcs hsl (dk zLw4 63 rfl) ?_
  refine Sp.mono (op_letter h1 (xs (nI i + nI 1).toNatClampNeg) (xs (nI i + nI 2).toNatClampNeg) (xs (nI i + nI 3).toNatClampNeg) (xs (nI i + nI 4).toNatClampNeg) (xs (nI i + nI 5).toNatClampNeg)) (fun v ν hq => ?_)
  obtain ⟨r, rfl, hM⟩ := hq
  refine L_al2 (dk zLw5 0 rfl) ?_
  refine L_arg (v := nI 1) rfl (li_in hi hL (by decide)) (dk zLw5 1 rfl) (dk zLw5 2 rfl) (dk zLw5 3 rfl) (dk zLw5 4 rfl) (dk zLw5 5 rfl) ?_
  refine L_arg (v := nI 2) rfl (li_in hi hL (by decide)) (dk zLw5 6 rfl) (dk zLw5 7 rfl) (dk zLw5 8 rfl) (dk zLw5 9 rfl) (dk zLw5 10 rfl) ?_
  refine L_arg (v := nI 3) rfl (li_in hi hL (by decide)) (dk zLw5 11 rfl) (dk zLw5 12 rfl) (dk zLw5 13 rfl) (dk zLw5 14 rfl) (dk zLw5 15 rfl) ?_
  refine L_arg (v := nI 4) rfl (li_in hi hL (by decide)) (dk zLw5 16 rfl) (dk zLw5 17 rfl) (dk zLw5 18 rfl) (dk zLw5 19 rfl) (dk zLw5 20 rfl) ?_
  refine L_arg (v := nI 5) rfl (li_in hi hL (by decide)) (dk zLw5 21 rfl) (dk zLw5 22 rfl) (dk zLw5 23 rfl) (dk zLw5 24 rfl) (dk zLw5 25 rfl) ?_
  refine L_callV (as := [.int (xs (nI i + nI 1).toNatClampNeg), .int (xs (nI i + nI 2).toNatClampNeg), .int (xs (nI i + nI 3).toNatClampNeg), .int (xs (nI i + nI 4).toNatClampNeg), .int (xs (nI i + nI 5).toNatClampNeg)]) (o := 123) (ci := 11) (st := [.int r]) okRL_62 npX11_letter (by decide) rfl (by decide) rfl (Nat.le_of_ble_eq_true rfl) hcs hsl (dk zLw5 26 rfl) ?_
  refine Sp.mono hM (fun v ξ hq => ?_)
  obtain ⟨rfl, hP⟩ := hq
  exact L_eqI (tgt := 1302) (by decide) (dk zLw5 27 rfl) (k ξ (hv.q hP))
theorem law_errands (hi : i + 6 ≤ L) (hL : L ≤ 3072) (hcs : cs ≤ 600000) (hsl : sl ≤ 7302250) (hv : Inv μ) (k : ∀ ξ, Inv ξ → Lx E b L xs cs sl 1302 (nI i) [] ξ) : Lx E b L xs cs sl 574 (nI i) [] μ := by
  obtain ⟨⟨tn, tb, S, h1⟩, h2, s, h3⟩ := id hv
  refine L_al1 (dk zLw5 30 rfl) ?_
  refine L_arg (v := nI 1) rfl (li_in hi hL (by decide)) (dk zLw5 31 rfl) (dk zLw5 32 rfl) (dk zLw5 33 rfl) (dk zLw5 34 rfl) (dk zLw5 35 rfl) ?_
  refine L_arg (v := nI 2) rfl (li_in hi hL (by decide)) (dk zLw5 36 rfl) (dk zLw5 37 rfl) (dk zLw5 38 rfl) (dk zLw5 39 rfl) (dk zLw5 40 rfl) ?_
  refine L_arg (v := nI 3) rfl (li_in hi hL (by decide)) (dk zLw5 41 rfl) (dk zLw5 42 rfl) (dk zLw5 43 rfl) (dk zLw5 44 rfl) (dk zLw5 45 rfl) ?_
  refine L_callV (as := [.int (xs (nI i + nI 1).toNatClampNeg), .int (xs (nI i + nI 2).toNatClampNeg), .int (xs (nI i + nI 3).toNatClampNeg)]) (o := 0) (ci := 10) (st := []) okRL_63 npX10_errands (by decide) rfl (by decide) rfl (by decide) hcs hsl (dk zLw5 46 rfl) ?_
  refine Sp.mono (op_errands h1 (xs (nI i + nI 1).toNatClampNeg) (xs (nI i + nI 2).toNatClampNeg) (xs (nI i + nI 3).toNatClampNeg)) (fun v ν hq => ?_)
  obtain ⟨r, rfl, hM⟩ := hq
  refine L_al2 (dk zLw5 47 rfl) ?_
  refine L_arg (v := nI 1) rfl (li_in hi hL (by decide)) (dk zLw5 48 rfl) (dk zLw5 49 rfl) (dk zLw5 50 rfl) (dk zLw5 51 rfl) (dk zLw5 52 rfl) ?_
  refine L_arg (v := nI 2) rfl (li_in hi hL (by decide)) (dk zLw5 53 rfl) (dk zLw5 54 rfl) (dk zLw5 55 rfl) (dk zLw5 56 rfl) (dk zLw5 57 rfl) ?_
  refine L_arg (v := nI 3) rfl (li_in hi hL (by decide)) (dk zLw5 58 rfl) (dk zLw5 59 rfl) (dk zLw5 60 rfl) (dk zLw5 61 rfl) (dk zLw5 62 rfl) ?_
  refine L_callV (as := [.int (xs (nI i + nI 1).toNatClampNeg), .int (xs (nI i + nI 2).toNatClampNeg), .int (xs (nI i + nI 3).toNatClampNeg)]) (o := 123) (ci := 11) (st := [.int r]) okRL_67 npX11_errands (by decide) rfl (by decide) rfl (Nat.le_of_ble_eq_true rfl) hcs hsl (dk zLw5 63 rfl) ?_
  refine Sp.mono hM (fun v ξ hq => ?_)
  obtain ⟨rfl, hP⟩ := hq
  exact L_eqI (tgt := 1302) (by decide) (dk zLw6 0 rfl) (k ξ (hv.q hP))
theorem law_clean (hi : i + 6 ≤ L) (hL : L ≤ 3072) (hcs : cs ≤ 600000) (hsl : sl ≤ 7302250) (hv : Inv μ) (k : ∀ ξ, Inv ξ → Lx E b L xs cs sl 1302 (nI i) [] ξ) : Lx E b L xs cs sl 617 (nI i) [] μ := by
  obtain ⟨⟨tn, tb, S, h1⟩, h2, s, h3⟩ := id hv
  refine L_al1 (dk zLw6 3 rfl) ?_
  refine L_arg (v := nI 1) rfl (li_in hi hL (by decide)) (dk zLw6 4 rfl) (dk zLw6 5 rfl) (dk zLw6 6 rfl) (dk zLw6 7 rfl) (dk zLw6 8 rfl) ?_
  refine L_callV (as := [.int (xs (nI i + nI 1).toNatClampNeg)]) (o := 0) (ci := 10) (st := []) okRL_68 npX10_clean (by decide) rfl (by decide) rfl (by decide) hcs hsl (dk zLw6 9 rfl) ?_
  refine Sp.mono (op_clean h1 (xs (nI i + nI 1).toNatClampNeg)) (fun v ν hq => ?_)
  obtain ⟨r, rfl, hM⟩ := hq
  refine L_al2 (dk zLw6 10 rfl) ?_
  refine L_arg (v := nI 1) rfl (li_in hi hL (by decide)) (dk zLw6 11 rfl) (dk zLw6 12 rfl) (dk zLw6 13 rfl) (dk zLw6 14 rfl) (dk zLw6 15 rfl) ?_
  refine L_callV (as := [.int (xs (nI i + nI 1).toNatClampNeg)]) (o := 123) (ci := 11) (st := [.int r]) okRL_71 npX11_clean (by decide) rfl (by decide) rfl (Nat.le_of_ble_eq_true rfl) hcs hsl (dk zLw6 16 rfl) ?_
  refine Sp.mono hM (fun v ξ hq => ?_)
  obtain ⟨rfl, hP⟩ := hq
  exact L_eqI (tgt := 1302) (by decide) (dk zLw6 17 rfl) (k ξ (hv.q hP))
theorem law_found (hi : i + 6 ≤ L) (hL : L ≤ 3072) (hcs : cs ≤ 600000) (hsl : sl ≤ 7302250) (hv : Inv μ) (k : ∀ ξ, Inv ξ → Lx E b L xs cs sl 1302 (nI i) [] ξ) : Lx E b L xs cs sl 640 (nI i) [] μ := by
  obtain ⟨⟨tn, tb, S, h1⟩, h2, s, h3⟩ := id hv
  refine L_al1 (dk zLw6 20 rfl) ?_
  refine L_arg (v := nI 1) rfl (li_in hi hL (by decide)) (dk zLw6 21 rfl) (dk zLw6 22 rfl) (dk zLw6 23 rfl) (dk zLw6 24 rfl) (dk zLw6 25 rfl) ?_
  refine L_arg (v := nI 2) rfl (li_in hi hL (by decide)) (dk zLw6 26 rfl) (dk zLw6 27 rfl) (dk zLw6 28 rfl) (dk zLw6 29 rfl) (dk zLw6 30 rfl) ?_
  refine L_callV (as := [.int (xs (nI i + nI 1).toNatClampNeg), .int (xs (nI i + nI 2).toNatClampNeg)]) (o := 0) (ci := 10) (st := []) okRL_72 npX10_found (by decide) rfl (by decide) rfl (by decide) hcs hsl (dk zLw6 31 rfl) ?_
  refine Sp.mono (op_found h1 (xs (nI i + nI 1).toNatClampNeg) (xs (nI i + nI 2).toNatClampNeg)) (fun v ν hq => ?_)
  obtain ⟨r, rfl, hM⟩ := hq
  refine L_al2 (dk zLw6 32 rfl) ?_
  refine L_arg (v := nI 1) rfl (li_in hi hL (by decide)) (dk zLw6 33 rfl) (dk zLw6 34 rfl) (dk zLw6 35 rfl) (dk zLw6 36 rfl) (dk zLw6 37 rfl) ?_
  refine L_arg (v := nI 2) rfl (li_in hi hL (by decide)) (dk zLw6 38 rfl) (dk zLw6 39 rfl) (dk zLw6 40 rfl) (dk zLw6 41 rfl) (dk zLw6 42 rfl) ?_
  refine L_callV (as := [.int (xs (nI i + nI 1).toNatClampNeg), .int (xs (nI i + nI 2).toNatClampNeg)]) (o := 123) (ci := 11) (st := [.int r]) okRL_75 npX11_found (by decide) rfl (by decide) rfl (Nat.le_of_ble_eq_true rfl) hcs hsl (dk zLw6 43 rfl) ?_
  refine Sp.mono hM (fun v ξ hq => ?_)
  obtain ⟨rfl, hP⟩ := hq
  exact L_eqI (tgt := 1302) (by decide) (dk zLw6 44 rfl) (k ξ (hv.q hP))
theorem law_many (hi : i + 6 ≤ L) (hL : L ≤ 3072) (hcs : cs ≤ 600000) (hsl : sl ≤ 7302250) (hv : Inv μ) (k : ∀ ξ, Inv ξ → Lx E b L xs cs sl 1302 (nI i) [] ξ) : Lx E b L xs cs sl 673 (nI i) [] μ := by
  obtain ⟨⟨tn, tb, S, h1⟩, h2, s, h3⟩ := id hv
  refine L_al1 (dk zLw6 47 rfl) ?_
  refine L_arg (v := nI 1) rfl (li_in hi hL (by decide)) (dk zLw6 48 rfl) (dk zLw6 49 rfl) (dk zLw6 50 rfl) (dk zLw6 51 rfl) (dk zLw6 52 rfl) ?_
  refine L_arg (v := nI 2) rfl (li_in hi hL (by decide)) (dk zLw6 53 rfl) (dk zLw6 54 rfl) (dk zLw6 55 rfl) (dk zLw6 56 rfl) (dk zLw6 57 rfl) ?_
  refine L_arg (v := nI 3) rfl (li_in hi hL (by decide)) (dk zLw6 58 rfl) (dk zLw6 59 rfl) (dk zLw6 60 rfl) (dk zLw6 61 rfl) (dk zLw6 62 rfl) ?_
  refine L_arg (v := nI 4) rfl (li_in hi hL (by decide)) (dk zLw6 63 rfl) (dk zLw7 0 rfl) (dk zLw7 1 rfl) (dk zLw7 2 rfl) (dk zLw7 3 rfl) ?_
  refine L_callV (as := [.int (xs (nI i + nI 1).toNatClampNeg), .int (xs (nI i + nI 2).toNatClampNeg), .int (xs (nI i + nI 3).toNatClampNeg), .int (xs (nI i + nI 4).toNatClampNeg)]) (o := 0) (ci := 10) (st := []) okRL_76 npX10_many (by decide) rfl (by decide) rfl (by decide) hcs hsl (dk zLw7 4 rfl) ?_
  refine Sp.mono (op_many h1 (xs (nI i + nI 1).toNatClampNeg) (xs (nI i + nI 2).toNatClampNeg) (xs (nI i + nI 3).toNatClampNeg) (xs (nI i + nI 4).toNatClampNeg)) (fun v ν hq => ?_)
  obtain ⟨r, rfl, hM⟩ := hq
  refine L_al2 (dk zLw7 5 rfl) ?_
  refine L_arg (v := nI 1) rfl (li_in hi hL (by decide)) (dk zLw7 6 rfl) (dk zLw7 7 rfl) (dk zLw7 8 rfl) (dk zLw7 9 rfl) (dk zLw7 10 rfl) ?_
  refine L_arg (v := nI 2) rfl (li_in hi hL (by decide)) (dk zLw7 11 rfl) (dk zLw7 12 rfl) (dk zLw7 13 rfl) (dk zLw7 14 rfl) (dk zLw7 15 rfl) ?_
  refine L_arg (v := nI 3) rfl (li_in hi hL (by decide)) (dk zLw7 16 rfl) (dk zLw7 17 rfl) (dk zLw7 18 rfl) (dk zLw7 19 rfl) (dk zLw7 20 rfl) ?_
  refine L_arg (v := nI 4) rfl (li_in hi hL (by decide)) (dk zLw7 21 rfl) (dk zLw7 22 rfl) (dk zLw7 23 rfl) (dk zLw7 24 rfl) (dk zLw7 25 rfl) ?_
  refine L_callV (as := [.int (xs (nI i + nI 1).toNatClampNeg), .int (xs (nI i + nI 2).toNatClampNeg), .int (xs (nI i + nI 3).toNatClampNeg), .int (xs (nI i + nI 4).toNatClampNeg)]) (o := 123) (ci := 11) (st := [.long r]) okRL_80 npX11_many (by decide) rfl (by decide) rfl (Nat.le_of_ble_eq_true rfl) hcs hsl (dk zLw7 26 rfl) ?_
  refine Sp.mono hM (fun v ξ hq => ?_)
  obtain ⟨rfl, hP⟩ := hq
  exact L_eqJ (tgt := 1302) (by decide) (dk zLw7 27 rfl) (dk zLw7 28 rfl) (k ξ (hv.q hP))
theorem law_list (hi : i + 6 ≤ L) (hL : L ≤ 3072) (hcs : cs ≤ 600000) (hsl : sl ≤ 7302250) (hv : Inv μ) (k : ∀ ξ, Inv ξ → Lx E b L xs cs sl 1302 (nI i) [] ξ) : Lx E b L xs cs sl 727 (nI i) [] μ := by
  obtain ⟨⟨tn, tb, S, h1⟩, h2, s, h3⟩ := id hv
  refine L_al1 (dk zLw7 31 rfl) ?_
  refine L_arg (v := nI 1) rfl (li_in hi hL (by decide)) (dk zLw7 32 rfl) (dk zLw7 33 rfl) (dk zLw7 34 rfl) (dk zLw7 35 rfl) (dk zLw7 36 rfl) ?_
  refine L_arg (v := nI 2) rfl (li_in hi hL (by decide)) (dk zLw7 37 rfl) (dk zLw7 38 rfl) (dk zLw7 39 rfl) (dk zLw7 40 rfl) (dk zLw7 41 rfl) ?_
  refine L_callV (as := [.int (xs (nI i + nI 1).toNatClampNeg), .int (xs (nI i + nI 2).toNatClampNeg)]) (o := 0) (ci := 10) (st := []) okRL_81 npX10_list (by decide) rfl (by decide) rfl (by decide) hcs hsl (dk zLw7 42 rfl) ?_
  refine Sp.mono (op_list h1 h3 (xs (nI i + nI 1).toNatClampNeg) (xs (nI i + nI 2).toNatClampNeg)) (fun v ν hq => ?_)
  obtain ⟨r, rfl, hM⟩ := hq
  refine L_al2 (dk zLw7 43 rfl) ?_
  refine L_arg (v := nI 1) rfl (li_in hi hL (by decide)) (dk zLw7 44 rfl) (dk zLw7 45 rfl) (dk zLw7 46 rfl) (dk zLw7 47 rfl) (dk zLw7 48 rfl) ?_
  refine L_arg (v := nI 2) rfl (li_in hi hL (by decide)) (dk zLw7 49 rfl) (dk zLw7 50 rfl) (dk zLw7 51 rfl) (dk zLw7 52 rfl) (dk zLw7 53 rfl) ?_
  refine L_callV (as := [.int (xs (nI i + nI 1).toNatClampNeg), .int (xs (nI i + nI 2).toNatClampNeg)]) (o := 123) (ci := 11) (st := [.int r]) okRL_84 npX11_list (by decide) rfl (by decide) rfl (Nat.le_of_ble_eq_true rfl) hcs hsl (dk zLw7 54 rfl) ?_
  refine Sp.mono hM (fun v ξ hq => ?_)
  obtain ⟨rfl, hP⟩ := hq
  exact L_eqI (tgt := 1302) (by decide) (dk zLw7 55 rfl) (k ξ (hv.l (h2.frL hP.2) hP.1 (hP.2.up (fun _ _ w => Or.inl w))))
theorem law_read (hi : i + 6 ≤ L) (hL : L ≤ 3072) (hcs : cs ≤ 600000) (hsl : sl ≤ 7302250) (hv : Inv μ) (k : ∀ ξ, Inv ξ → Lx E b L xs cs sl 1302 (nI i) [] ξ) : Lx E b L xs cs sl 760 (nI i) [] μ := by
  obtain ⟨⟨tn, tb, S, h1⟩, h2, s, h3⟩ := id hv
  refine L_al1 (dk zLw7 58 rfl) ?_
  refine L_arg (v := nI 1) rfl (li_in hi hL (by decide)) (dk zLw7 59 rfl) (dk zLw7 60 rfl) (dk zLw7 61 rfl) (dk zLw7 62 rfl) (dk zLw7 63 rfl) ?_
  refine L_callV (as := [.int (xs (nI i + nI 1).toNatClampNeg)]) (o := 0) (ci := 10) (st := []) okRL_85 npX10_read (by decide) rfl (by decide) rfl (by decide) hcs hsl (dk zLw8 0 rfl) ?_
  refine Sp.mono (op_read h1 h2 h3 (xs (nI i + nI 1).toNatClampNeg)) (fun v ν hq => ?_)
  obtain ⟨r, rfl, hM⟩ := hq
  refine L_al2 (dk zLw8 1 rfl) ?_
  refine L_arg (v := nI 1) rfl (li_in hi hL (by decide)) (dk zLw8 2 rfl) (dk zLw8 3 rfl) (dk zLw8 4 rfl) (dk zLw8 5 rfl) (dk zLw8 6 rfl) ?_
  refine L_callV (as := [.int (xs (nI i + nI 1).toNatClampNeg)]) (o := 123) (ci := 11) (st := [.int r]) okRL_88 npX11_read (by decide) rfl (by decide) rfl (Nat.le_of_ble_eq_true rfl) hcs hsl (dk zLw8 7 rfl) ?_
  refine Sp.mono hM (fun v ξ hq => ?_)
  obtain ⟨rfl, hP⟩ := hq
  exact L_eqI (tgt := 1302) (by decide) (dk zLw8 8 rfl) (k ξ (hv.l hP.2.1 hP.1 hP.2.2))
theorem law_unlist (hi : i + 6 ≤ L) (hL : L ≤ 3072) (hcs : cs ≤ 600000) (hsl : sl ≤ 7302250) (hv : Inv μ) (k : ∀ ξ, Inv ξ → Lx E b L xs cs sl 1302 (nI i) [] ξ) : Lx E b L xs cs sl 783 (nI i) [] μ := by
  obtain ⟨⟨tn, tb, S, h1⟩, h2, s, h3⟩ := id hv
  refine L_al1 (dk zLw8 11 rfl) ?_
  refine L_callV (as := []) (o := 0) (ci := 10) (st := []) okRL_89 npX10_unlist (by decide) rfl (by decide) rfl (by decide) hcs hsl (dk zLw8 12 rfl) ?_
  refine Sp.mono (op_unlist h3) (fun v ν hq => ?_)
  obtain ⟨r, rfl, hM⟩ := hq
  refine L_al2 (dk zLw8 13 rfl) ?_
  refine L_callV (as := []) (o := 123) (ci := 11) (st := [.int r]) okRL_92 npX11_unlist (by decide) rfl (by decide) rfl (Nat.le_of_ble_eq_true rfl) hcs hsl (dk zLw8 14 rfl) ?_
  refine Sp.mono hM (fun v ξ hq => ?_)
  obtain ⟨rfl, hP⟩ := hq
  exact L_eqI (tgt := 1302) (by decide) (dk zLw8 15 rfl) (k ξ (hv.l (h2.frL hP.2) hP.1 (hP.2.up (fun _ _ w => Or.inl w))))
theorem law_listed (hi : i + 6 ≤ L) (hL : L ≤ 3072) (hcs : cs ≤ 600000) (hsl : sl ≤ 7302250) (hv : Inv μ) (k : ∀ ξ, Inv ξ → Lx E b L xs cs sl 1302 (nI i) [] ξ) : Lx E b L xs cs sl 796 (nI i) [] μ := by
  obtain ⟨⟨tn, tb, S, h1⟩, h2, s, h3⟩ := id hv
  refine L_al1 (dk zLw8 18 rfl) ?_
  refine L_arg (v := nI 1) rfl (li_in hi hL (by decide)) (dk zLw8 19 rfl) (dk zLw8 20 rfl) (dk zLw8 21 rfl) (dk zLw8 22 rfl) (dk zLw8 23 rfl) ?_
  refine L_arg (v := nI 2) rfl (li_in hi hL (by decide)) (dk zLw8 24 rfl) (dk zLw8 25 rfl) (dk zLw8 26 rfl) (dk zLw8 27 rfl) (dk zLw8 28 rfl) ?_
  refine L_callV (as := [.int (xs (nI i + nI 1).toNatClampNeg), .int (xs (nI i + nI 2).toNatClampNeg)]) (o := 0) (ci := 10) (st := []) okRL_93 npX10_listed (by decide) rfl (by decide) rfl (by decide) hcs hsl (dk zLw8 29 rfl) ?_
  refine Sp.mono (op_listed h3 (xs (nI i + nI 1).toNatClampNeg) (xs (nI i + nI 2).toNatClampNeg)) (fun v ν hq => ?_)
  obtain ⟨r, rfl, hM⟩ := hq
  refine L_al2 (dk zLw8 30 rfl) ?_
  refine L_arg (v := nI 1) rfl (li_in hi hL (by decide)) (dk zLw8 31 rfl) (dk zLw8 32 rfl) (dk zLw8 33 rfl) (dk zLw8 34 rfl) (dk zLw8 35 rfl) ?_
  refine L_arg (v := nI 2) rfl (li_in hi hL (by decide)) (dk zLw8 36 rfl) (dk zLw8 37 rfl) (dk zLw8 38 rfl) (dk zLw8 39 rfl) (dk zLw8 40 rfl) ?_
  refine L_callV (as := [.int (xs (nI i + nI 1).toNatClampNeg), .int (xs (nI i + nI 2).toNatClampNeg)]) (o := 123) (ci := 11) (st := [.int r]) okRL_96 npX11_listed (by decide) rfl (by decide) rfl (Nat.le_of_ble_eq_true rfl) hcs hsl (dk zLw8 41 rfl) ?_
  refine Sp.mono hM (fun v ξ hq => ?_)
  obtain ⟨rfl, hP⟩ := hq
  exact L_eqI (tgt := 1302) (by decide) (dk zLw8 42 rfl) (k ξ (hv.q hP))
theorem law_lets (hi : i + 6 ≤ L) (hL : L ≤ 3072) (hcs : cs ≤ 600000) (hsl : sl ≤ 7302250) (hv : Inv μ) (k : ∀ ξ, Inv ξ → Lx E b L xs cs sl 1302 (nI i) [] ξ) : Lx E b L xs cs sl 829 (nI i) [] μ := by
  obtain ⟨⟨tn, tb, S, h1⟩, h2, s, h3⟩ := id hv
  refine L_al1 (dk zLw8 45 rfl) ?_
  refine L_arg (v := nI 1) rfl (li_in hi hL (by decide)) (dk zLw8 46 rfl) (dk zLw8 47 rfl) (dk zLw8 48 rfl) (dk zLw8 49 rfl) (dk zLw8 50 rfl) ?_
  refine L_arg (v := nI 2) rfl (li_in hi hL (by decide)) (dk zLw8 51 rfl) (dk zLw8 52 rfl) (dk zLw8 53 rfl) (dk zLw8 54 rfl) (dk zLw8 55 rfl) ?_
  refine L_callV (as := [.int (xs (nI i + nI 1).toNatClampNeg), .int (xs (nI i + nI 2).toNatClampNeg)]) (o := 0) (ci := 10) (st := []) okRL_97 npX10_lets (by decide) rfl (by decide) rfl (by decide) hcs hsl (dk zLw8 56 rfl) ?_
  refine Sp.mono (op_lets h1 h3 (xs (nI i + nI 1).toNatClampNeg) (xs (nI i + nI 2).toNatClampNeg)) (fun v ν hq => ?_)
  obtain ⟨r, rfl, hM⟩ := hq
  refine L_al2 (dk zLw8 57 rfl) ?_
  refine L_arg (v := nI 1) rfl (li_in hi hL (by decide)) (dk zLw8 58 rfl) (dk zLw8 59 rfl) (dk zLw8 60 rfl) (dk zLw8 61 rfl) (dk zLw8 62 rfl) ?_
  refine L_arg (v := nI 2) rfl (li_in hi hL (by decide)) (dk zLw8 63 rfl) (dk zLw9 0 rfl) (dk zLw9 1 rfl) (dk zLw9 2 rfl) (dk zLw9 3 rfl) ?_
  refine L_callV (as := [.int (xs (nI i + nI 1).toNatClampNeg), .int (xs (nI i + nI 2).toNatClampNeg)]) (o := 123) (ci := 11) (st := [.int r]) okRL_100 npX11_lets (by decide) rfl (by decide) rfl (Nat.le_of_ble_eq_true rfl) hcs hsl (dk zLw9 4 rfl) ?_
  refine Sp.mono hM (fun v ξ hq => ?_)
  obtain ⟨rfl, hP⟩ := hq
  exact L_eqI (tgt := 1302) (by decide) (dk zLw9 5 rfl) (k ξ (hv.q hP))
theorem law_slips (hi : i + 6 ≤ L) (hL : L ≤ 3072) (hcs : cs ≤ 600000) (hsl : sl ≤ 7302250) (hv : Inv μ) (k : ∀ ξ, Inv ξ → Lx E b L xs cs sl 1302 (nI i) [] ξ) : Lx E b L xs cs sl 862 (nI i) [] μ := by
  obtain ⟨⟨tn, tb, S, h1⟩, h2, s, h3⟩ := id hv
  refine L_al1 (dk zLw9 8 rfl) ?_
  refine L_arg (v := nI 1) rfl (li_in hi hL (by decide)) (dk zLw9 9 rfl) (dk zLw9 10 rfl) (dk zLw9 11 rfl) (dk zLw9 12 rfl) (dk zLw9 13 rfl) ?_
  refine L_callV (as := [.int (xs (nI i + nI 1).toNatClampNeg)]) (o := 0) (ci := 10) (st := []) okRL_101 npX10_slips (by decide) rfl (by decide) rfl (by decide) hcs hsl (dk zLw9 14 rfl) ?_
  refine Sp.mono (op_slips h3 (xs (nI i + nI 1).toNatClampNeg)) (fun v ν hq => ?_)
  obtain ⟨r, rfl, hM⟩ := hq
  refine L_al2 (dk zLw9 15 rfl) ?_
  refine L_arg (v := nI 1) rfl (li_in hi hL (by decide)) (dk zLw9 16 rfl) (dk zLw9 17 rfl) (dk zLw9 18 rfl) (dk zLw9 19 rfl) (dk zLw9 20 rfl) ?_
  refine L_callV (as := [.int (xs (nI i + nI 1).toNatClampNeg)]) (o := 123) (ci := 11) (st := [.int r]) okRL_104 npX11_slips (by decide) rfl (by decide) rfl (Nat.le_of_ble_eq_true rfl) hcs hsl (dk zLw9 21 rfl) ?_
  refine Sp.mono hM (fun v ξ hq => ?_)
  obtain ⟨rfl, hP⟩ := hq
  exact L_eqI (tgt := 1302) (by decide) (dk zLw9 22 rfl) (k ξ (hv.q hP))
theorem law_fewest (hi : i + 6 ≤ L) (hL : L ≤ 3072) (hcs : cs ≤ 600000) (hsl : sl ≤ 7302250) (hv : Inv μ) (k : ∀ ξ, Inv ξ → Lx E b L xs cs sl 1302 (nI i) [] ξ) : Lx E b L xs cs sl 885 (nI i) [] μ := by
  obtain ⟨⟨tn, tb, S, h1⟩, h2, s, h3⟩ := id hv
  refine L_al1 (dk zLw9 25 rfl) ?_
  refine L_callV (as := []) (o := 0) (ci := 10) (st := []) okRL_105 npX10_fewest (by decide) rfl (by decide) rfl (by decide) hcs hsl (dk zLw9 26 rfl) ?_
  refine Sp.mono (op_fewest h3) (fun v ν hq => ?_)
  obtain ⟨r, rfl, hM⟩ := hq
  refine L_al2 (dk zLw9 27 rfl) ?_
  refine L_callV (as := []) (o := 123) (ci := 11) (st := [.int r]) okRL_108 npX11_fewest (by decide) rfl (by decide) rfl (Nat.le_of_ble_eq_true rfl) hcs hsl (dk zLw9 28 rfl) ?_
  refine Sp.mono hM (fun v ξ hq => ?_)
  obtain ⟨rfl, hP⟩ := hq
  exact L_eqI (tgt := 1302) (by decide) (dk zLw9 29 rfl) (k ξ (hv.q hP))
theorem law_far (hi : i + 6 ≤ L) (hL : L ≤ 3072) (hcs : cs ≤ 600000) (hsl : sl ≤ 7302250) (hv : Inv μ) (k : ∀ ξ, Inv ξ → Lx E b L xs cs sl 1302 (nI i) [] ξ) : Lx E b L xs cs sl 898 (nI i) [] μ := by
  obtain ⟨⟨tn, tb, S, h1⟩, h2, s, h3⟩ := id hv
  refine L_al1 (dk zLw9 32 rfl) ?_
  refine L_arg (v := nI 1) rfl (li_in hi hL (by decide)) (dk zLw9 33 rfl) (dk zLw9 34 rfl) (dk zLw9 35 rfl) (dk zLw9 36 rfl) (dk zLw9 37 rfl) ?_
  refine L_arg (v := nI 2) rfl (li_in hi hL (by decide)) (dk zLw9 38 rfl) (dk zLw9 39 rfl) (dk zLw9 40 rfl) (dk zLw9 41 rfl) (dk zLw9 42 rfl) ?_
  refine L_callV (as := [.int (xs (nI i + nI 1).toNatClampNeg), .int (xs (nI i + nI 2).toNatClampNeg)]) (o := 0) (ci := 10) (st := []) okRL_109 npX10_far (by decide) rfl (by decide) rfl (by decide) hcs hsl (dk zLw9 43 rfl) ?_
  refine Sp.mono (op_far h1 (xs (nI i + nI 1).toNatClampNeg) (xs (nI i + nI 2).toNatClampNeg)) (fun v ν hq => ?_)
  obtain ⟨r, rfl, hM⟩ := hq
  refine L_al2 (dk zLw9 44 rfl) ?_
  refine L_arg (v := nI 1) rfl (li_in hi hL (by decide)) (dk zLw9 45 rfl) (dk zLw9 46 rfl) (dk zLw9 47 rfl) (dk zLw9 48 rfl) (dk zLw9 49 rfl) ?_
  refine L_arg (v := nI 2) rfl (li_in hi hL (by decide)) (dk zLw9 50 rfl) (dk zLw9 51 rfl) (dk zLw9 52 rfl) (dk zLw9 53 rfl) (dk zLw9 54 rfl) ?_
  refine L_callV (as := [.int (xs (nI i + nI 1).toNatClampNeg), .int (xs (nI i + nI 2).toNatClampNeg)]) (o := 123) (ci := 11) (st := [.int r]) okRL_112 npX11_far (by decide) rfl (by decide) rfl (Nat.le_of_ble_eq_true rfl) hcs hsl (dk zLw9 55 rfl) ?_
  refine Sp.mono hM (fun v ξ hq => ?_)
  obtain ⟨rfl, hP⟩ := hq
  exact L_eqI (tgt := 1302) (by decide) (dk zLw9 56 rfl) (k ξ (hv.q hP))
theorem law_without (hi : i + 6 ≤ L) (hL : L ≤ 3072) (hcs : cs ≤ 600000) (hsl : sl ≤ 7302250) (hv : Inv μ) (k : ∀ ξ, Inv ξ → Lx E b L xs cs sl 1302 (nI i) [] ξ) : Lx E b L xs cs sl 931 (nI i) [] μ := by
  obtain ⟨⟨tn, tb, S, h1⟩, h2, s, h3⟩ := id hv
  refine L_al1 (dk zLw9 59 rfl) ?_
  refine L_arg (v := nI 1) rfl (li_in hi hL (by decide)) (dk zLw9 60 rfl) (dk zLw9 61 rfl) (dk zLw9 62 rfl) (dk zLw9 63 rfl) (dk zLw10 0 rfl) ?_
  refine L_arg (v := nI 2) rfl (li_in hi hL (by decide)) (dk zLw10 1 rfl) (dk zLw10 2 rfl) (dk zLw10 3 rfl) (dk zLw10 4 rfl) (dk zLw10 5 rfl) ?_
  refine L_callV (as := [.int (xs (nI i + nI 1).toNatClampNeg), .int (xs (nI i + nI 2).toNatClampNeg)]) (o := 0) (ci := 10) (st := []) okRL_113 npX10_without (by decide) rfl (by decide) rfl (by decide) hcs hsl (dk zLw10 6 rfl) ?_
  refine Sp.mono (op_without h1 (xs (nI i + nI 1).toNatClampNeg) (xs (nI i + nI 2).toNatClampNeg)) (fun v ν hq => ?_)
  obtain ⟨r, rfl, hM⟩ := hq
  refine L_al2 (dk zLw10 7 rfl) ?_
  refine L_arg (v := nI 1) rfl (li_in hi hL (by decide)) (dk zLw10 8 rfl) (dk zLw10 9 rfl) (dk zLw10 10 rfl) (dk zLw10 11 rfl) (dk zLw10 12 rfl) ?_
  refine L_arg (v := nI 2) rfl (li_in hi hL (by decide)) (dk zLw10 13 rfl) (dk zLw10 14 rfl) (dk zLw10 15 rfl) (dk zLw10 16 rfl) (dk zLw10 17 rfl) ?_
  refine L_callV (as := [.int (xs (nI i + nI 1).toNatClampNeg), .int (xs (nI i + nI 2).toNatClampNeg)]) (o := 123) (ci := 11) (st := [.int r]) okRL_116 npX11_without (by decide) rfl (by decide) rfl (Nat.le_of_ble_eq_true rfl) hcs hsl (dk zLw10 18 rfl) ?_
  refine Sp.mono hM (fun v ξ hq => ?_)
  obtain ⟨rfl, hP⟩ := hq
  exact L_eqI (tgt := 1302) (by decide) (dk zLw10 19 rfl) (k ξ (hv.q hP))
theorem law_with (hi : i + 6 ≤ L) (hL : L ≤ 3072) (hcs : cs ≤ 600000) (hsl : sl ≤ 7302250) (hv : Inv μ) (k : ∀ ξ, Inv ξ → Lx E b L xs cs sl 1302 (nI i) [] ξ) : Lx E b L xs cs sl 964 (nI i) [] μ := by
  obtain ⟨⟨tn, tb, S, h1⟩, h2, s, h3⟩ := id hv
  refine L_al1 (dk zLw10 22 rfl) ?_
  refine L_arg (v := nI 1) rfl (li_in hi hL (by decide)) (dk zLw10 23 rfl) (dk zLw10 24 rfl) (dk zLw10 25 rfl) (dk zLw10 26 rfl) (dk zLw10 27 rfl) ?_
  refine L_arg (v := nI 2) rfl (li_in hi hL (by decide)) (dk zLw10 28 rfl) (dk zLw10 29 rfl) (dk zLw10 30 rfl) (dk zLw10 31 rfl) (dk zLw10 32 rfl) ?_
  refine L_arg (v := nI 3) rfl (li_in hi hL (by decide)) (dk zLw10 33 rfl) (dk zLw10 34 rfl) (dk zLw10 35 rfl) (dk zLw10 36 rfl) (dk zLw10 37 rfl) ?_
  refine L_callV (as := [.int (xs (nI i + nI 1).toNatClampNeg), .int (xs (nI i + nI 2).toNatClampNeg), .int (xs (nI i + nI 3).toNatClampNeg)]) (o := 0) (ci := 10) (st := []) okRL_117 npX10_with (by decide) rfl (by decide) rfl (by decide) hcs hsl (dk zLw10 38 rfl) ?_
  refine Sp.mono (op_with h1 (xs (nI i + nI 1).toNatClampNeg) (xs (nI i + nI 2).toNatClampNeg) (xs (nI i + nI 3).toNatClampNeg)) (fun v ν hq => ?_)
  obtain ⟨r, rfl, hM⟩ := hq
  refine L_al2 (dk zLw10 39 rfl) ?_
  refine L_arg (v := nI 1) rfl (li_in hi hL (by decide)) (dk zLw10 40 rfl) (dk zLw10 41 rfl) (dk zLw10 42 rfl) (dk zLw10 43 rfl) (dk zLw10 44 rfl) ?_
  refine L_arg (v := nI 2) rfl (li_in hi hL (by decide)) (dk zLw10 45 rfl) (dk zLw10 46 rfl) (dk zLw10 47 rfl) (dk zLw10 48 rfl) (dk zLw10 49 rfl) ?_
  refine L_arg (v := nI 3) rfl (li_in hi hL (by decide)) (dk zLw10 50 rfl) (dk zLw10 51 rfl) (dk zLw10 52 rfl) (dk zLw10 53 rfl) (dk zLw10 54 rfl) ?_
  refine L_callV (as := [.int (xs (nI i + nI 1).toNatClampNeg), .int (xs (nI i + nI 2).toNatClampNeg), .int (xs (nI i + nI 3).toNatClampNeg)]) (o := 123) (ci := 11) (st := [.int r]) okRL_120 npX11_with (by decide) rfl (by decide) rfl (Nat.le_of_ble_eq_true rfl) hcs hsl (dk zLw10 55 rfl) ?_
  refine Sp.mono hM (fun v ξ hq => ?_)
  obtain ⟨rfl, hP⟩ := hq
  exact L_eqI (tgt := 1302) (by decide) (dk zLw10 56 rfl) (k ξ (hv.q hP))
theorem law_sheet (hi : i + 6 ≤ L) (hL : L ≤ 3072) (hcs : cs ≤ 600000) (hsl : sl ≤ 7302250) (hv : Inv μ) (k : ∀ ξ, Inv ξ → Lx E b L xs cs sl 1302 (nI i) [] ξ) : Lx E b L xs cs sl 1007 (nI i) [] μ := by
  obtain ⟨⟨tn, tb, S, h1⟩, h2, s, h3⟩ := id hv
  refine L_al1 (dk zLw10 59 rfl) ?_
  refine L_arg (v := nI 1) rfl (li_in hi hL (by decide)) (dk zLw10 60 rfl) (dk zLw10 61 rfl) (dk zLw10 62 rfl) (dk zLw10 63 rfl) (dk zLw11 0 rfl) ?_
  refine L_arg (v := nI 2) rfl (li_in hi hL (by decide)) (dk zLw11 1 rfl) (dk zLw11 2 rfl) (dk zLw11 3 rfl) (dk zLw11 4 rfl) (dk zLw11 5 rfl) ?_
  refine L_arg (v := nI 3) rfl (li_in hi hL (by decide)) (dk zLw11 6 rfl) (dk zLw11 7 rfl) (dk zLw11 8 rfl) (dk zLw11 9 rfl) (dk zLw11 10 rfl) ?_
  refine L_callV (as := [.int (xs (nI i + nI 1).toNatClampNeg), .int (xs (nI i + nI 2).toNatClampNeg), .int (xs (nI i + nI 3).toNatClampNeg)]) (o := 0) (ci := 10) (st := []) okRL_121 npX10_sheet (by decide) rfl (by decide) rfl (by decide) hcs hsl (dk zLw11 11 rfl) ?_
  refine Sp.mono (op_sheet h2 (xs (nI i + nI 1).toNatClampNeg) (xs (nI i + nI 2).toNatClampNeg) (xs (nI i + nI 3).toNatClampNeg)) (fun v ν hq => ?_)
  obtain ⟨r, rfl, hM⟩ := hq
  refine L_al2 (dk zLw11 12 rfl) ?_
  refine L_arg (v := nI 1) rfl (li_in hi hL (by decide)) (dk zLw11 13 rfl) (dk zLw11 14 rfl) (dk zLw11 15 rfl) (dk zLw11 16 rfl) (dk zLw11 17 rfl) ?_
  refine L_arg (v := nI 2) rfl (li_in hi hL (by decide)) (dk zLw11 18 rfl) (dk zLw11 19 rfl) (dk zLw11 20 rfl) (dk zLw11 21 rfl) (dk zLw11 22 rfl) ?_
  refine L_arg (v := nI 3) rfl (li_in hi hL (by decide)) (dk zLw11 23 rfl) (dk zLw11 24 rfl) (dk zLw11 25 rfl) (dk zLw11 26 rfl) (dk zLw11 27 rfl) ?_
  refine L_callV (as := [.int (xs (nI i + nI 1).toNatClampNeg), .int (xs (nI i + nI 2).toNatClampNeg), .int (xs (nI i + nI 3).toNatClampNeg)]) (o := 123) (ci := 11) (st := [.int r]) okRL_124 npX11_sheet (by decide) rfl (by decide) rfl (Nat.le_of_ble_eq_true rfl) hcs hsl (dk zLw11 28 rfl) ?_
  refine Sp.mono hM (fun v ξ hq => ?_)
  obtain ⟨rfl, hP⟩ := hq
  exact L_eqI (tgt := 1302) (by decide) (dk zLw11 29 rfl) (k ξ (hv.s hP.1 (hP.2.up (fun _ _ w => Or.inl w))))
theorem law_lose (hi : i + 6 ≤ L) (hL : L ≤ 3072) (hcs : cs ≤ 600000) (hsl : sl ≤ 7302250) (hv : Inv μ) (k : ∀ ξ, Inv ξ → Lx E b L xs cs sl 1302 (nI i) [] ξ) : Lx E b L xs cs sl 1050 (nI i) [] μ := by
  obtain ⟨⟨tn, tb, S, h1⟩, h2, s, h3⟩ := id hv
  refine L_al1 (dk zLw11 32 rfl) ?_
  refine L_arg (v := nI 1) rfl (li_in hi hL (by decide)) (dk zLw11 33 rfl) (dk zLw11 34 rfl) (dk zLw11 35 rfl) (dk zLw11 36 rfl) (dk zLw11 37 rfl) ?_
  refine L_callV (as := [.int (xs (nI i + nI 1).toNatClampNeg)]) (o := 0) (ci := 10) (st := []) okRL_125 npX10_lose (by decide) rfl (by decide) rfl (by decide) hcs hsl (dk zLw11 38 rfl) ?_
  refine Sp.mono (op_lose h2 (xs (nI i + nI 1).toNatClampNeg)) (fun v ν hq => ?_)
  obtain ⟨r, rfl, hM⟩ := hq
  refine L_al2 (dk zLw11 39 rfl) ?_
  refine L_arg (v := nI 1) rfl (li_in hi hL (by decide)) (dk zLw11 40 rfl) (dk zLw11 41 rfl) (dk zLw11 42 rfl) (dk zLw11 43 rfl) (dk zLw11 44 rfl) ?_
  refine L_callV (as := [.int (xs (nI i + nI 1).toNatClampNeg)]) (o := 123) (ci := 11) (st := [.int r]) okRL_128 npX11_lose (by decide) rfl (by decide) rfl (Nat.le_of_ble_eq_true rfl) hcs hsl (dk zLw11 45 rfl) ?_
  refine Sp.mono hM (fun v ξ hq => ?_)
  obtain ⟨rfl, hP⟩ := hq
  exact L_eqI (tgt := 1302) (by decide) (dk zLw11 46 rfl) (k ξ (hv.s hP.1 (hP.2.up (fun _ _ w => Or.inl w))))
theorem law_lay (hi : i + 6 ≤ L) (hL : L ≤ 3072) (hcs : cs ≤ 600000) (hsl : sl ≤ 7302250) (hv : Inv μ) (k : ∀ ξ, Inv ξ → Lx E b L xs cs sl 1302 (nI i) [] ξ) : Lx E b L xs cs sl 1073 (nI i) [] μ := by
  obtain ⟨⟨tn, tb, S, h1⟩, h2, s, h3⟩ := id hv
  refine L_al1 (dk zLw11 49 rfl) ?_
  refine L_arg (v := nI 1) rfl (li_in hi hL (by decide)) (dk zLw11 50 rfl) (dk zLw11 51 rfl) (dk zLw11 52 rfl) (dk zLw11 53 rfl) (dk zLw11 54 rfl) ?_
  refine L_arg (v := nI 2) rfl (li_in hi hL (by decide)) (dk zLw11 55 rfl) (dk zLw11 56 rfl) (dk zLw11 57 rfl) (dk zLw11 58 rfl) (dk zLw11 59 rfl) ?_
  refine L_arg (v := nI 3) rfl (li_in hi hL (by decide)) (dk zLw11 60 rfl) (dk zLw11 61 rfl) (dk zLw11 62 rfl) (dk zLw11 63 rfl) (dk zLw12 0 rfl) ?_
  refine L_arg (v := nI 4) rfl (li_in hi hL (by decide)) (dk zLw12 1 rfl) (dk zLw12 2 rfl) (dk zLw12 3 rfl) (dk zLw12 4 rfl) (dk zLw12 5 rfl) ?_
  refine L_callV (as := [.int (xs (nI i + nI 1).toNatClampNeg), .int (xs (nI i + nI 2).toNatClampNeg), .int (xs (nI i + nI 3).toNatClampNeg), .int (xs (nI i + nI 4).toNatClampNeg)]) (o := 0) (ci := 10) (st := []) okRL_129 npX10_lay (by decide) rfl (by decide) rfl (by decide) hcs hsl (dk zLw12 6 rfl) ?_
  refine Sp.mono (op_lay h2 (xs (nI i + nI 1).toNatClampNeg) (xs (nI i + nI 2).toNatClampNeg) (xs (nI i + nI 3).toNatClampNeg) (xs (nI i + nI 4).toNatClampNeg)) (fun v ν hq => ?_)
  obtain ⟨r, rfl, hM⟩ := hq
  refine L_al2 (dk zLw12 7 rfl) ?_
  refine L_arg (v := nI 1) rfl (li_in hi hL (by decide)) (dk zLw12 8 rfl) (dk zLw12 9 rfl) (dk zLw12 10 rfl) (dk zLw12 11 rfl) (dk zLw12 12 rfl) ?_
  refine L_arg (v := nI 2) rfl (li_in hi hL (by decide)) (dk zLw12 13 rfl) (dk zLw12 14 rfl) (dk zLw12 15 rfl) (dk zLw12 16 rfl) (dk zLw12 17 rfl) ?_
  refine L_arg (v := nI 3) rfl (li_in hi hL (by decide)) (dk zLw12 18 rfl) (dk zLw12 19 rfl) (dk zLw12 20 rfl) (dk zLw12 21 rfl) (dk zLw12 22 rfl) ?_
  refine L_arg (v := nI 4) rfl (li_in hi hL (by decide)) (dk zLw12 23 rfl) (dk zLw12 24 rfl) (dk zLw12 25 rfl) (dk zLw12 26 rfl) (dk zLw12 27 rfl) ?_
  refine L_callV (as := [.int (xs (nI i + nI 1).toNatClampNeg), .int (xs (nI i + nI 2).toNatClampNeg), .int (xs (nI i + nI 3).toNatClampNeg), .int (xs (nI i + nI 4).toNatClampNeg)]) (o := 123) (ci := 11) (st := [.int r]) okRL_132 npX11_lay (by decide) rfl (by decide) rfl (Nat.le_of_ble_eq_true rfl) hcs hsl (dk zLw12 28 rfl) ?_
  refine Sp.mono hM (fun v ξ hq => ?_)
  obtain ⟨rfl, hP⟩ := hq
  exact L_eqI (tgt := 1302) (by decide) (dk zLw12 29 rfl) (k ξ (hv.s hP.1 (hP.2.up (fun _ _ w => Or.inl w))))
theorem law_get (hi : i + 6 ≤ L) (hL : L ≤ 3072) (hcs : cs ≤ 600000) (hsl : sl ≤ 7302250) (hv : Inv μ) (k : ∀ ξ, Inv ξ → Lx E b L xs cs sl 1302 (nI i) [] ξ) : Lx E b L xs cs sl 1126 (nI i) [] μ := by
  obtain ⟨⟨tn, tb, S, h1⟩, h2, s, h3⟩ := id hv
  refine L_al1 (dk zLw12 32 rfl) ?_
  refine L_arg (v := nI 1) rfl (li_in hi hL (by decide)) (dk zLw12 33 rfl) (dk zLw12 34 rfl) (dk zLw12 35 rfl) (dk zLw12 36 rfl) (dk zLw12 37 rfl) ?_
  refine L_arg (v := nI 2) rfl (li_in hi hL (by decide)) (dk zLw12 38 rfl) (dk zLw12 39 rfl) (dk zLw12 40 rfl) (dk zLw12 41 rfl) (dk zLw12 42 rfl) ?_
  refine L_arg (v := nI 3) rfl (li_in hi hL (by decide)) (dk zLw12 43 rfl) (dk zLw12 44 rfl) (dk zLw12 45 rfl) (dk zLw12 46 rfl) (dk zLw12 47 rfl) ?_
  refine L_callV (as := [.int (xs (nI i + nI 1).toNatClampNeg), .int (xs (nI i + nI 2).toNatClampNeg), .int (xs (nI i + nI 3).toNatClampNeg)]) (o := 0) (ci := 10) (st := []) okRL_133 npX10_get (by decide) rfl (by decide) rfl (by decide) hcs hsl (dk zLw12 48 rfl) ?_
  refine Sp.mono (op_get h2 (xs (nI i + nI 1).toNatClampNeg) (xs (nI i + nI 2).toNatClampNeg) (xs (nI i + nI 3).toNatClampNeg)) (fun v ν hq => ?_)
  obtain ⟨r, rfl, hM⟩ := hq
  refine L_al2 (dk zLw12 49 rfl) ?_
  refine L_arg (v := nI 1) rfl (li_in hi hL (by decide)) (dk zLw12 50 rfl) (dk zLw12 51 rfl) (dk zLw12 52 rfl) (dk zLw12 53 rfl) (dk zLw12 54 rfl) ?_
  refine L_arg (v := nI 2) rfl (li_in hi hL (by decide)) (dk zLw12 55 rfl) (dk zLw12 56 rfl) (dk zLw12 57 rfl) (dk zLw12 58 rfl) (dk zLw12 59 rfl) ?_
  refine L_arg (v := nI 3) rfl (li_in hi hL (by decide)) (dk zLw12 60 rfl) (dk zLw12 61 rfl) (dk zLw12 62 rfl) (dk zLw12 63 rfl) (dk zLw13 0 rfl) ?_
  refine L_callV (as := [.int (xs (nI i + nI 1).toNatClampNeg), .int (xs (nI i + nI 2).toNatClampNeg), .int (xs (nI i + nI 3).toNatClampNeg)]) (o := 123) (ci := 11) (st := [.int r]) okRL_136 npX11_get (by decide) rfl (by decide) rfl (Nat.le_of_ble_eq_true rfl) hcs hsl (dk zLw13 1 rfl) ?_
  refine Sp.mono hM (fun v ξ hq => ?_)
  obtain ⟨rfl, hP⟩ := hq
  exact L_eqI (tgt := 1302) (by decide) (dk zLw13 2 rfl) (k ξ (hv.s hP.1 (hP.2.up (fun _ _ w => Or.inl w))))
theorem law_copy (hi : i + 6 ≤ L) (hL : L ≤ 3072) (hcs : cs ≤ 600000) (hsl : sl ≤ 7302250) (hv : Inv μ) (k : ∀ ξ, Inv ξ → Lx E b L xs cs sl 1302 (nI i) [] ξ) : Lx E b L xs cs sl 1169 (nI i) [] μ := by
  obtain ⟨⟨tn, tb, S, h1⟩, h2, s, h3⟩ := id hv
  refine L_al1 (dk zLw13 5 rfl) ?_
  refine L_arg (v := nI 1) rfl (li_in hi hL (by decide)) (dk zLw13 6 rfl) (dk zLw13 7 rfl) (dk zLw13 8 rfl) (dk zLw13 9 rfl) (dk zLw13 10 rfl) ?_
  refine L_arg (v := nI 2) rfl (li_in hi hL (by decide)) (dk zLw13 11 rfl) (dk zLw13 12 rfl) (dk zLw13 13 rfl) (dk zLw13 14 rfl) (dk zLw13 15 rfl) ?_
  refine L_arg (v := nI 3) rfl (li_in hi hL (by decide)) (dk zLw13 16 rfl) (dk zLw13 17 rfl) (dk zLw13 18 rfl) (dk zLw13 19 rfl) (dk zLw13 20 rfl) ?_
  refine L_arg (v := nI 4) rfl (li_in hi hL (by decide)) (dk zLw13 21 rfl) (dk zLw13 22 rfl) (dk zLw13 23 rfl) (dk zLw13 24 rfl) (dk zLw13 25 rfl) ?_
  refine L_arg (v := nI 5) rfl (li_in hi hL (by decide)) (dk zLw13 26 rfl) (dk zLw13 27 rfl) (dk zLw13 28 rfl) (dk zLw13 29 rfl) (dk zLw13 30 rfl) ?_
  refine L_callV (as := [.int (xs (nI i + nI 1).toNatClampNeg), .int (xs (nI i + nI 2).toNatClampNeg), .int (xs (nI i + nI 3).toNatClampNeg), .int (xs (nI i + nI 4).toNatClampNeg), .int (xs (nI i + nI 5).toNatClampNeg)]) (o := 0) (ci := 10) (st := []) okRL_137 npX10_copy (by decide) rfl (by decide) rfl (by decide) hcs hsl (dk zLw13 31 rfl) ?_
  refine Sp.mono (op_copy h2 (xs (nI i + nI 1).toNatClampNeg) (xs (nI i + nI 2).toNatClampNeg) (xs (nI i + nI 3).toNatClampNeg) (xs (nI i + nI 4).toNatClampNeg) (xs (nI i + nI 5).toNatClampNeg)) (fun v ν hq => ?_)
  obtain ⟨r, rfl, hM⟩ := hq
  refine L_al2 (dk zLw13 32 rfl) ?_
  refine L_arg (v := nI 1) rfl (li_in hi hL (by decide)) (dk zLw13 33 rfl) (dk zLw13 34 rfl) (dk zLw13 35 rfl) (dk zLw13 36 rfl) (dk zLw13 37 rfl) ?_
  refine L_arg (v := nI 2) rfl (li_in hi hL (by decide)) (dk zLw13 38 rfl) (dk zLw13 39 rfl) (dk zLw13 40 rfl) (dk zLw13 41 rfl) (dk zLw13 42 rfl) ?_
  refine L_arg (v := nI 3) rfl (li_in hi hL (by decide)) (dk zLw13 43 rfl) (dk zLw13 44 rfl) (dk zLw13 45 rfl) (dk zLw13 46 rfl) (dk zLw13 47 rfl) ?_
  refine L_arg (v := nI 4) rfl (li_in hi hL (by decide)) (dk zLw13 48 rfl) (dk zLw13 49 rfl) (dk zLw13 50 rfl) (dk zLw13 51 rfl) (dk zLw13 52 rfl) ?_
  refine L_arg (v := nI 5) rfl (li_in hi hL (by decide)) (dk zLw13 53 rfl) (dk zLw13 54 rfl) (dk zLw13 55 rfl) (dk zLw13 56 rfl) (dk zLw13 57 rfl) ?_
  refine L_callV (as := [.int (xs (nI i + nI 1).toNatClampNeg), .int (xs (nI i + nI 2).toNatClampNeg), .int (xs (nI i + nI 3).toNatClampNeg), .int (xs (nI i + nI 4).toNatClampNeg), .int (xs (nI i + nI 5).toNatClampNeg)]) (o := 123) (ci := 11) (st := [.int r]) okRL_140 npX11_copy (by decide) rfl (by decide) rfl (Nat.le_of_ble_eq_true rfl) hcs hsl (dk zLw13 58 rfl) ?_
  refine Sp.mono hM (fun v ξ hq => ?_)
  obtain ⟨rfl, hP⟩ := hq
  exact L_eqI (tgt := 1302) (by decide) (dk zLw13 59 rfl) (k ξ (hv.s hP.1 (hP.2.up (fun _ _ w => Or.inl w))))
theorem law_write (hi : i + 6 ≤ L) (hL : L ≤ 3072) (hcs : cs ≤ 600000) (hsl : sl ≤ 7302250) (hv : Inv μ) (k : ∀ ξ, Inv ξ → Lx E b L xs cs sl 1302 (nI i) [] ξ) : Lx E b L xs cs sl 1232 (nI i) [] μ := by
  obtain ⟨⟨tn, tb, S, h1⟩, h2, s, h3⟩ := id hv
  refine L_al1 (dk zLw13 62 rfl) ?_
  refine L_arg (v := nI 1) rfl (li_in hi hL (by decide)) (dk zLw13 63 rfl) (dk zLw14 0 rfl) (dk zLw14 1 rfl) (dk zLw14 2 rfl) (dk zLw14 3 rfl) ?_
  refine L_arg (v := nI 2) rfl (li_in hi hL (by decide)) (dk zLw14 4 rfl) (dk zLw14 5 rfl) (dk zLw14 6 rfl) (dk zLw14 7 rfl) (dk zLw14 8 rfl) ?_
  refine L_callV (as := [.int (xs (nI i + nI 1).toNatClampNeg), .int (xs (nI i + nI 2).toNatClampNeg)]) (o := 0) (ci := 10) (st := []) okRL_141 npX10_write (by decide) rfl (by decide) rfl (by decide) hcs hsl (dk zLw14 9 rfl) ?_
  refine Sp.mono (op_write h1 h2 (xs (nI i + nI 1).toNatClampNeg) (xs (nI i + nI 2).toNatClampNeg)) (fun v ν hq => ?_)
  obtain ⟨r, rfl, hM⟩ := hq
  refine L_al2 (dk zLw14 10 rfl) ?_
  refine L_arg (v := nI 1) rfl (li_in hi hL (by decide)) (dk zLw14 11 rfl) (dk zLw14 12 rfl) (dk zLw14 13 rfl) (dk zLw14 14 rfl) (dk zLw14 15 rfl) ?_
  refine L_arg (v := nI 2) rfl (li_in hi hL (by decide)) (dk zLw14 16 rfl) (dk zLw14 17 rfl) (dk zLw14 18 rfl) (dk zLw14 19 rfl) (dk zLw14 20 rfl) ?_
  refine L_callV (as := [.int (xs (nI i + nI 1).toNatClampNeg), .int (xs (nI i + nI 2).toNatClampNeg)]) (o := 123) (ci := 11) (st := [.int r]) okRL_144 npX11_write (by decide) rfl (by decide) rfl (Nat.le_of_ble_eq_true rfl) hcs hsl (dk zLw14 21 rfl) ?_
  refine Sp.mono hM (fun v ξ hq => ?_)
  obtain ⟨rfl, hP⟩ := hq
  exact L_eqI (tgt := 1302) (by decide) (dk zLw14 22 rfl) (k ξ (hv.s hP.1 hP.2))
theorem law_count (hi : i + 6 ≤ L) (hL : L ≤ 3072) (hcs : cs ≤ 600000) (hsl : sl ≤ 7302250) (hv : Inv μ) (k : ∀ ξ, Inv ξ → Lx E b L xs cs sl 1302 (nI i) [] ξ) : Lx E b L xs cs sl 1265 (nI i) [] μ := by
  obtain ⟨⟨tn, tb, S, h1⟩, h2, s, h3⟩ := id hv
  refine L_al1 (dk zLw14 25 rfl) ?_
  refine L_arg (v := nI 1) rfl (li_in hi hL (by decide)) (dk zLw14 26 rfl) (dk zLw14 27 rfl) (dk zLw14 28 rfl) (dk zLw14 29 rfl) (dk zLw14 30 rfl) ?_
  refine L_callV (as := [.int (xs (nI i + nI 1).toNatClampNeg)]) (o := 0) (ci := 10) (st := []) okRL_145 npX10_count (by decide) rfl (by decide) rfl (by decide) hcs hsl (dk zLw14 31 rfl) ?_
  refine Sp.mono (op_count h1 h2 h3 (xs (nI i + nI 1).toNatClampNeg)) (fun v ν hq => ?_)
  obtain ⟨r, rfl, hM⟩ := hq
  refine L_al2 (dk zLw14 32 rfl) ?_
  refine L_arg (v := nI 1) rfl (li_in hi hL (by decide)) (dk zLw14 33 rfl) (dk zLw14 34 rfl) (dk zLw14 35 rfl) (dk zLw14 36 rfl) (dk zLw14 37 rfl) ?_
  refine L_callV (as := [.int (xs (nI i + nI 1).toNatClampNeg)]) (o := 123) (ci := 11) (st := [.int r]) okRL_148 npX11_count (by decide) rfl (by decide) rfl (Nat.le_of_ble_eq_true rfl) hcs hsl (dk zLw14 38 rfl) ?_
  refine Sp.mono hM (fun v ξ hq => ?_)
  obtain ⟨rfl, hP⟩ := hq
  exact L_eqI (tgt := 1302) (by decide) (dk zLw14 39 rfl) (k ξ (hv.q hP))
theorem law_digest (hi : i + 6 ≤ L) (hL : L ≤ 3072) (hcs : cs ≤ 600000) (hsl : sl ≤ 7302250) (hv : Inv μ) (k : ∀ ξ, Inv ξ → Lx E b L xs cs sl 1302 (nI i) [] ξ) : Lx E b L xs cs sl 1288 (nI i) [] μ := by
  obtain ⟨⟨tn, tb, S, h1⟩, h2, s, h3⟩ := id hv
  refine L_al1 (dk zLw14 42 rfl) ?_
  refine L_callV (as := []) (o := 0) (ci := 10) (st := []) okRL_149 npX10_digest (by decide) rfl (by decide) rfl (by decide) hcs hsl (dk zLw14 43 rfl) ?_
  refine Sp.mono (op_digest h1 h3) (fun v ν hq => ?_)
  obtain ⟨r, rfl, hM⟩ := hq
  refine L_al2 (dk zLw14 44 rfl) ?_
  refine L_callV (as := []) (o := 123) (ci := 11) (st := [.long r]) okRL_153 npX11_digest (by decide) rfl (by decide) rfl (Nat.le_of_ble_eq_true rfl) hcs hsl (dk zLw14 45 rfl) ?_
  refine Sp.mono hM (fun v ξ hq => ?_)
  obtain ⟨rfl, hP⟩ := hq
  exact L_eqJ (tgt := 1302) (by decide) (dk zLw14 46 rfl) (dk zLw14 47 rfl) (k ξ (hv.q hP))
end LAWCASES
