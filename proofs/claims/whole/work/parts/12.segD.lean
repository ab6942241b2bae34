set_option maxRecDepth 20000 in
set_option maxHeartbeats 2000000 in
theorem gX0_link_0 {E : EV} {Q : Po} {μ : Mem} {x0 : Nat} {x1 : Int32} {x2 : Int32} (hk0 : kd x0 = 0) (h : ((x1 < 0 → Q none μ) ∧ (¬ x1 < 0 → ((8 ≤ x1 → Q none μ) ∧ (¬ 8 ≤ x1 → ((x2 < 0 → Q none μ) ∧ (¬ x2 < 0 → ((8 ≤ x2 → Q none μ) ∧ (¬ 8 ≤ x2 → vp_in x1 8 ∧ (∀ v6 : Int32, v6 = (μ.1 (x0 + 10) x1.toNatClampNeg) ||| (1 <<< ((x2 : Int32) &&& 31)) → vp_in x2 8 ∧ (∀ v8 : Int32, v8 = ((mI μ (x0 + 10) x1.toNatClampNeg v6).1 (x0 + 10) x2.toNatClampNeg) ||| (1 <<< ((x1 : Int32) &&& 31)) → Q none (mI (mI μ (x0 + 10) x1.toNatClampNeg v6) (x0 + 10) x2.toNatClampNeg v8)))))))))))) : Ex E MX0_link Q 0 [(0, .ref x0), (1, .int x1), (2, .int x2)] [] μ := by
  refine x_iload_n 1 rfl rfl (dk zX0_link 0 rfl) ?_
  refine x_if_lt (tgt := 44) (by decide) (dk zX0_link 1 rfl) (fun c1 => ?_) (fun c1 => ?_)
  · have hc1t := h.1 c1
    exact x_vret rfl (dk zX0_link 30 rfl) hc1t
  · have hc1f := h.2 c1
    refine x_iload_n 1 rfl rfl (dk zX0_link 2 rfl) ?_
    refine x_bipush (v := 8) (by decide) (dk zX0_link 3 rfl) ?_
    refine x_icmp_ge (tgt := 44) (by decide) (dk zX0_link 4 rfl) (fun c2 => ?_) (fun c2 => ?_)
    · have hc2t := hc1f.1 c2
      exact x_vret rfl (dk zX0_link 30 rfl) hc2t
    · have hc2f := hc1f.2 c2
      refine x_iload_n 2 rfl rfl (dk zX0_link 5 rfl) ?_
      refine x_if_lt (tgt := 44) (by decide) (dk zX0_link 6 rfl) (fun c3 => ?_) (fun c3 => ?_)
      · have hc3t := hc2f.1 c3
        exact x_vret rfl (dk zX0_link 30 rfl) hc3t
      · have hc3f := hc2f.2 c3
        refine x_iload_n 2 rfl rfl (dk zX0_link 7 rfl) ?_
        refine x_bipush (v := 8) (by decide) (dk zX0_link 8 rfl) ?_
        refine x_icmp_ge (tgt := 44) (by decide) (dk zX0_link 9 rfl) (fun c4 => ?_) (fun c4 => ?_)
        · have hc4t := hc3f.1 c4
          exact x_vret rfl (dk zX0_link 30 rfl) hc4t
        · have hc4f := hc3f.2 c4
          refine x_aload_n 0 rfl rfl (dk zX0_link 10 rfl) ?_
          refine gf0_1 (r := x0 + 10) rfl hk0 (sD1 _ hk0) (dk zX0_link 11 rfl) ?_
          refine x_iload_n 1 rfl rfl (dk zX0_link 12 rfl) ?_
          refine x_dup2ri (dk zX0_link 13 rfl) ?_
          have b5 := hc4f.1
          have hb5 := hc4f.2
          refine y_iald (j := x1.toNatClampNeg) (sD1k _ hk0) (sD1l _ hk0) b5 rfl (dk zX0_link 14 rfl) ?_
          refine x_iconst (v := 1) (by decide) (dk zX0_link 15 rfl) ?_
          refine x_iload_n 2 rfl rfl (dk zX0_link 16 rfl) ?_
          refine x_ishl (dk zX0_link 17 rfl) ?_
          refine x_ior (dk zX0_link 18 rfl) ?_
          refine x_topi (fun v6 ev6 => ?_)
          have hv6 := hb5 v6 ev6
          refine y_iast (j := x1.toNatClampNeg) (sD1k _ hk0) (sD1l _ hk0) b5 rfl (dk zX0_link 19 rfl) ?_
          refine x_aload_n 0 rfl rfl (dk zX0_link 20 rfl) ?_
          refine gf0_1 (r := x0 + 10) rfl hk0 (sD1 _ hk0) (dk zX0_link 21 rfl) ?_
          refine x_iload_n 2 rfl rfl (dk zX0_link 22 rfl) ?_
          refine x_dup2ri (dk zX0_link 23 rfl) ?_
          have b7 := hv6.1
          have hb7 := hv6.2
          refine y_iald (j := x2.toNatClampNeg) (sD1k _ hk0) (sD1l _ hk0) b7 rfl (dk zX0_link 24 rfl) ?_
          refine x_iconst (v := 1) (by decide) (dk zX0_link 25 rfl) ?_
          refine x_iload_n 1 rfl rfl (dk zX0_link 26 rfl) ?_
          refine x_ishl (dk zX0_link 27 rfl) ?_
          refine x_ior (dk zX0_link 28 rfl) ?_
          refine x_topi (fun v8 ev8 => ?_)
          have hv8 := hb7 v8 ev8
          refine y_iast (j := x2.toNatClampNeg) (sD1k _ hk0) (sD1l _ hk0) b7 rfl (dk zX0_link 29 rfl) ?_
          exact x_vret rfl (dk zX0_link 30 rfl) hv8
set_option maxRecDepth 20000 in
set_option maxHeartbeats 2000000 in
theorem gX0_layOut_0 {E : EV} {Q : Po} {μ : Mem} {x0 : Nat} {x2 : Int32} (hk0 : kd x0 = 0) (h : Sp E MJ7_fill_53178 [.ref (x0 + 10), .int 0] μ (fun v m1 => v = none ∧ Ex E MX0_layOut Q 10 [(0, .ref x0), (1, .ref 1), (2, .int x2), (3, .int 0)] [] m1)) : Ex E MX0_layOut Q 0 [(0, .ref x0), (1, .ref 1), (2, .int x2)] [] μ := by
  refine x_aload_n 0 rfl rfl (dk zX0_layOut 0 rfl) ?_
  refine gf0_1 (r := x0 + 10) rfl hk0 (sD1 _ hk0) (dk zX0_layOut 1 rfl) ?_
  refine x_iconst (v := 0) (by decide) (dk zX0_layOut 2 rfl) ?_
  refine x_callS (as := [.ref (x0 + 10), .int 0]) (st := []) rfl okRX0_52 npJ7_fill_53178 ⟨Nat.le_of_ble_eq_true rfl, Nat.le_of_ble_eq_true rfl⟩ (Nat.le_of_ble_eq_true rfl) (dk zX0_layOut 3 rfl) ?_
  refine h.mono ?_
  rintro _ m1 ⟨rfl, hm1⟩
  show Ex E MX0_layOut Q 8 [(0, .ref x0), (1, .ref 1), (2, .int x2)] [] m1
  refine x_iconst (v := 0) (by decide) (dk zX0_layOut 4 rfl) ?_
  refine x_istore_n (k := 3) (l' := [(0, .ref x0), (1, .ref 1), (2, .int x2), (3, .int 0)]) [1, 2, 3, 0] rfl rfl (by decide) (dk zX0_layOut 5 rfl) ?_
  exact hm1
set_option maxRecDepth 20000 in
set_option maxHeartbeats 2000000 in
theorem gX0_layOut_10 {E : EV} {Q : Po} {μ : Mem} {x0 : Nat} {x2 : Int32} {x3 : Int32} (hk_x0 : kd x0 = 0) (h : Sp E MX3_gatesTold [.ref 1] μ (fun v m1 => ∃ r2 : Int32, v = some (.int r2) ∧ ((r2 ≤ x3 → Q none m1) ∧ (¬ r2 ≤ x3 → ((¬ ((x2 >>> ((x3 : Int32) &&& 31)) &&& 1) = 1 → ∀ v5 : Int32, v5 = x3 + 1 → Ex E MX0_layOut Q 10 [(0, .ref x0), (1, .ref 1), (2, .int x2), (3, .int v5)] [] m1) ∧ (((x2 >>> ((x3 : Int32) &&& 31)) &&& 1) = 1 → Sp E MX3_from [.ref 1, .int (2 * x3)] m1 (fun v m6 => ∃ r7 : Int32, v = some (.int r7) ∧ Sp E MX3_to [.ref 1, .int (2 * x3)] m6 (fun v m8 => ∃ r9 : Int32, v = some (.int r9) ∧ Sp E MX0_link [.ref x0, .int r7, .int r9] m8 (fun v m10 => v = none ∧ ∀ v11 : Int32, v11 = x3 + 1 → Ex E MX0_layOut Q 10 [(0, .ref x0), (1, .ref 1), (2, .int x2), (3, .int v11)] [] m10))))))))) : Ex E MX0_layOut Q 10 [(0, .ref x0), (1, .ref 1), (2, .int x2), (3, .int x3)] [] μ := by
  refine x_iload_n 3 rfl rfl (dk zX0_layOut 6 rfl) ?_
  refine x_aload_n 1 rfl rfl (dk zX0_layOut 7 rfl) ?_
  refine x_callV (as := []) (o := 1) (ci := 3) (st := [.int x3]) rfl okRX0_58 npX3_gatesTold ⟨Nat.le_of_ble_eq_true rfl, Nat.le_of_ble_eq_true rfl⟩ k1 (by decide) rfl (Nat.le_of_ble_eq_true rfl) (dk zX0_layOut 8 rfl) ?_
  refine h.mono ?_
  rintro _ m1 ⟨r2, rfl, hm1⟩
  show Ex E MX0_layOut Q 15 [(0, .ref x0), (1, .ref 1), (2, .int x2), (3, .int x3)] [.int r2, .int x3] m1
  refine x_icmp_ge (tgt := 51) (by decide) (dk zX0_layOut 9 rfl) (fun c3 => ?_) (fun c3 => ?_)
  · have hc3t := hm1.1 c3
    exact x_vret rfl (dk zX0_layOut 31 rfl) hc3t
  · have hc3f := hm1.2 c3
    refine x_iload_n 2 rfl rfl (dk zX0_layOut 10 rfl) ?_
    refine x_iload_n 3 rfl rfl (dk zX0_layOut 11 rfl) ?_
    refine x_ishr (dk zX0_layOut 12 rfl) ?_
    refine x_iconst (v := 1) (by decide) (dk zX0_layOut 13 rfl) ?_
    refine x_iand (dk zX0_layOut 14 rfl) ?_
    refine x_iconst (v := 1) (by decide) (dk zX0_layOut 15 rfl) ?_
    refine x_icmp_ne (tgt := 45) (by decide) (dk zX0_layOut 16 rfl) (fun c4 => ?_) (fun c4 => ?_)
    · have hc4t := hc3f.1 c4
      obtain ⟨v5, ev5⟩ : ∃ y : Int32, y = x3 + 1 := ⟨_, rfl⟩
      have hv5 := hc4t v5 ev5
      refine x_iinc (v := v5) (l' := [(0, .ref x0), (1, .ref 1), (2, .int x2), (3, .int v5)]) 3 rfl (by rw [ev5]; rfl) [1, 2, 3, 0] rfl (by decide) (dk zX0_layOut 29 rfl) ?_
      refine x_goto (tgt := 10) (by decide) (dk zX0_layOut 30 rfl) ?_
      exact hv5
    · have hc4f := hc3f.2 c4
      refine x_aload_n 0 rfl rfl (dk zX0_layOut 17 rfl) ?_
      refine x_aload_n 1 rfl rfl (dk zX0_layOut 18 rfl) ?_
      refine x_iconst (v := 2) (by decide) (dk zX0_layOut 19 rfl) ?_
      refine x_iload_n 3 rfl rfl (dk zX0_layOut 20 rfl) ?_
      refine x_imul (dk zX0_layOut 21 rfl) ?_
      refine x_callV (as := [.int (2 * x3)]) (o := 1) (ci := 3) (st := [.ref x0]) rfl okRX0_64 npX3_from ⟨Nat.le_of_ble_eq_true rfl, Nat.le_of_ble_eq_true rfl⟩ k1 (by decide) rfl (Nat.le_of_ble_eq_true rfl) (dk zX0_layOut 22 rfl) ?_
      refine hc4f.mono ?_
      rintro _ m6 ⟨r7, rfl, hm6⟩
      show Ex E MX0_layOut Q 35 [(0, .ref x0), (1, .ref 1), (2, .int x2), (3, .int x3)] [.int r7, .ref x0] m6
      refine x_aload_n 1 rfl rfl (dk zX0_layOut 23 rfl) ?_
      refine x_iconst (v := 2) (by decide) (dk zX0_layOut 24 rfl) ?_
      refine x_iload_n 3 rfl rfl (dk zX0_layOut 25 rfl) ?_
      refine x_imul (dk zX0_layOut 26 rfl) ?_
      refine x_callV (as := [.int (2 * x3)]) (o := 1) (ci := 3) (st := [.int r7, .ref x0]) rfl okRX0_67 npX3_to ⟨Nat.le_of_ble_eq_true rfl, Nat.le_of_ble_eq_true rfl⟩ k1 (by decide) rfl (Nat.le_of_ble_eq_true rfl) (dk zX0_layOut 27 rfl) ?_
      refine hm6.mono ?_
      rintro _ m8 ⟨r9, rfl, hm8⟩
      show Ex E MX0_layOut Q 42 [(0, .ref x0), (1, .ref 1), (2, .int x2), (3, .int x3)] [.int r9, .int r7, .ref x0] m8
      refine x_callV (as := [.int r7, .int r9]) (o := x0) (ci := 0) (st := []) rfl okRX0_31 npX0_link ⟨Nat.le_of_ble_eq_true rfl, Nat.le_of_ble_eq_true rfl⟩ hk_x0 (by decide) rfl (Nat.le_of_ble_eq_true rfl) (dk zX0_layOut 28 rfl) ?_
      refine hm8.mono ?_
      rintro _ m10 ⟨rfl, hm10⟩
      show Ex E MX0_layOut Q 45 [(0, .ref x0), (1, .ref 1), (2, .int x2), (3, .int x3)] [] m10
      obtain ⟨v11, ev11⟩ : ∃ y : Int32, y = x3 + 1 := ⟨_, rfl⟩
      have hv11 := hm10 v11 ev11
      refine x_iinc (v := v11) (l' := [(0, .ref x0), (1, .ref 1), (2, .int x2), (3, .int v11)]) 3 rfl (by rw [ev11]; rfl) [1, 2, 3, 0] rfl (by decide) (dk zX0_layOut 29 rfl) ?_
      refine x_goto (tgt := 10) (by decide) (dk zX0_layOut 30 rfl) ?_
      exact hv11
set_option maxRecDepth 20000 in
set_option maxHeartbeats 2000000 in
theorem gX0_spread_0 {E : EV} {Q : Po} {μ : Mem} {x0 : Nat} {x1 : Int32} (hk0 : kd x0 = 0) (h : vp_in x1 8 ∧ (Sp E MJ7_fill_53178 [.ref (x0 + 2 + x1.toNatClampNeg), .int ((-1))] μ (fun v m2 => v = none ∧ ∀ v3 : Int32, v3 = 1 <<< ((x1 : Int32) &&& 31) → Ex E MX0_spread Q 33 [(0, .ref x0), (1, .int x1), (2, .ref (x0 + 2 + x1.toNatClampNeg)), (3, .int 1), (4, .int v3), (5, .int 0)] [] (mI (mI m2 (x0 + 2 + x1.toNatClampNeg) x1.toNatClampNeg 0) (x0 + 11) 0 x1)))) : Ex E MX0_spread Q 0 [(0, .ref x0), (1, .int x1)] [] μ := by
  refine x_aload_n 0 rfl rfl (dk zX0_spread 0 rfl) ?_
  refine gf0_0 (r := x0 + 1) rfl hk0 (sD0 _ hk0) (dk zX0_spread 1 rfl) ?_
  refine x_iload_n 1 rfl rfl (dk zX0_spread 2 rfl) ?_
  have b1 := h.1
  have hb1 := h.2
  refine y_aaldI (b := x0 + 2 + x1.toNatClampNeg) (sD0k _ hk0) (sD0l _ hk0) b1 (by omega) (dk zX0_spread 3 rfl) ?_
  refine x_astore_n (k := 2) (l' := [(0, .ref x0), (1, .int x1), (2, .ref (x0 + 2 + x1.toNatClampNeg))]) [1, 2, 0] rfl rfl (by decide) (dk zX0_spread 4 rfl) ?_
  refine x_aload_n 2 rfl rfl (dk zX0_spread 5 rfl) ?_
  refine x_iconst (v := -1) (by decide) (dk zX0_spread 6 rfl) ?_
  refine x_callS (as := [.ref (x0 + 2 + x1.toNatClampNeg), .int ((-1))]) (st := []) rfl okRX0_52 npJ7_fill_53178 ⟨Nat.le_of_ble_eq_true rfl, Nat.le_of_ble_eq_true rfl⟩ (Nat.le_of_ble_eq_true rfl) (dk zX0_spread 7 rfl) ?_
  refine hb1.mono ?_
  rintro _ m2 ⟨rfl, hm2⟩
  show Ex E MX0_spread Q 12 [(0, .ref x0), (1, .int x1), (2, .ref (x0 + 2 + x1.toNatClampNeg))] [] m2
  refine x_aload_n 2 rfl rfl (dk zX0_spread 8 rfl) ?_
  refine x_iload_n 1 rfl rfl (dk zX0_spread 9 rfl) ?_
  refine x_iconst (v := 0) (by decide) (dk zX0_spread 10 rfl) ?_
  refine y_iast (j := x1.toNatClampNeg) (sDrk hk0 b1) (sDrl hk0 b1) b1 rfl (dk zX0_spread 11 rfl) ?_
  refine x_aload_n 0 rfl rfl (dk zX0_spread 12 rfl) ?_
  refine gf0_2 (r := x0 + 11) rfl hk0 (sD2 _ hk0) (dk zX0_spread 13 rfl) ?_
  refine x_iconst (v := 0) (by decide) (dk zX0_spread 14 rfl) ?_
  refine x_iload_n 1 rfl rfl (dk zX0_spread 15 rfl) ?_
  refine y_iast (j := 0) (sD2k _ hk0) (sD2l _ hk0) (by unfold vp_in; decide) (by decide) (dk zX0_spread 16 rfl) ?_
  refine x_iconst (v := 1) (by decide) (dk zX0_spread 17 rfl) ?_
  refine x_istore_n (k := 3) (l' := [(0, .ref x0), (1, .int x1), (2, .ref (x0 + 2 + x1.toNatClampNeg)), (3, .int 1)]) [1, 2, 3, 0] rfl rfl (by decide) (dk zX0_spread 18 rfl) ?_
  refine x_iconst (v := 1) (by decide) (dk zX0_spread 19 rfl) ?_
  refine x_iload_n 1 rfl rfl (dk zX0_spread 20 rfl) ?_
  refine x_ishl (dk zX0_spread 21 rfl) ?_
  refine x_topi (fun v3 ev3 => ?_)
  have hv3 := hm2 v3 ev3
  refine x_istoreG (l' := [(0, .ref x0), (1, .int x1), (2, .ref (x0 + 2 + x1.toNatClampNeg)), (3, .int 1), (4, .int v3)]) [1, 2, 3, 4, 0] rfl (by decide) (dk zX0_spread 22 rfl) ?_
  refine x_iconst (v := 0) (by decide) (dk zX0_spread 23 rfl) ?_
  refine x_istoreG (l' := [(0, .ref x0), (1, .int x1), (2, .ref (x0 + 2 + x1.toNatClampNeg)), (3, .int 1), (4, .int v3), (5, .int 0)]) [1, 2, 3, 4, 5, 0] rfl (by decide) (dk zX0_spread 24 rfl) ?_
  exact hv3
set_option maxRecDepth 20000 in
set_option maxHeartbeats 2000000 in
theorem gX0_spread_33 {E : EV} {Q : Po} {μ : Mem} {x0 : Nat} {x1 : Int32} {x2 : Nat} {x3 : Int32} {x4 : Int32} {x5 : Int32} (hk_x0 : kd x0 = 0) (hk_x2 : kd x2 = 20) (hn_x2 : ln x2 = 8) (h : ((x3 ≤ x5 → Q none μ) ∧ (¬ x3 ≤ x5 → ((8 ≤ x5 → Q none μ) ∧ (¬ 8 ≤ x5 → vp_in x5 8 ∧ (∀ v4 : Int32, v4 = μ.1 (x0 + 11) x5.toNatClampNeg → vp_in v4 8 ∧ (∀ v6 : Int32, v6 = (μ.1 (x0 + 10) v4.toNatClampNeg) &&& (x4 ^^^ ((-1))) → ∀ v7 : Int32, v7 = x4 ||| v6 → Ex E MX0_spread Q 79 [(0, .ref x0), (1, .int x1), (2, .ref x2), (3, .int x3), (4, .int v7), (5, .int x5), (6, .int v4), (7, .int v6), (8, .int 0)] [] μ))))))) : Ex E MX0_spread Q 33 [(0, .ref x0), (1, .int x1), (2, .ref x2), (3, .int x3), (4, .int x4), (5, .int x5)] [] μ := by
  refine x_iload 5 rfl (dk zX0_spread 25 rfl) ?_
  refine x_iload_n 3 rfl rfl (dk zX0_spread 26 rfl) ?_
  refine x_icmp_ge (tgt := 144) (by decide) (dk zX0_spread 27 rfl) (fun c1 => ?_) (fun c1 => ?_)
  · have hc1t := h.1 c1
    exact x_vret rfl (dk zX0_spread 86 rfl) hc1t
  · have hc1f := h.2 c1
    refine x_iload 5 rfl (dk zX0_spread 28 rfl) ?_
    refine x_bipush (v := 8) (by decide) (dk zX0_spread 29 rfl) ?_
    refine x_icmp_ge (tgt := 144) (by decide) (dk zX0_spread 30 rfl) (fun c2 => ?_) (fun c2 => ?_)
    · have hc2t := hc1f.1 c2
      exact x_vret rfl (dk zX0_spread 86 rfl) hc2t
    · have hc2f := hc1f.2 c2
      refine x_aload_n 0 rfl rfl (dk zX0_spread 31 rfl) ?_
      refine gf0_2 (r := x0 + 11) rfl hk_x0 (sD2 _ hk_x0) (dk zX0_spread 32 rfl) ?_
      refine x_iload 5 rfl (dk zX0_spread 33 rfl) ?_
      have b3 := hc2f.1
      have hb3 := hc2f.2
      refine y_iald (j := x5.toNatClampNeg) (sD2k _ hk_x0) (sD2l _ hk_x0) b3 rfl (dk zX0_spread 34 rfl) ?_
      refine x_topi (fun v4 ev4 => ?_)
      have hv4 := hb3 v4 ev4
      refine x_istoreG (l' := [(0, .ref x0), (1, .int x1), (2, .ref x2), (3, .int x3), (4, .int x4), (5, .int x5), (6, .int v4)]) [1, 2, 3, 4, 5, 6, 0] rfl (by decide) (dk zX0_spread 35 rfl) ?_
      refine x_aload_n 0 rfl rfl (dk zX0_spread 36 rfl) ?_
      refine gf0_1 (r := x0 + 10) rfl hk_x0 (sD1 _ hk_x0) (dk zX0_spread 37 rfl) ?_
      refine x_iload 6 rfl (dk zX0_spread 38 rfl) ?_
      have b5 := hv4.1
      have hb5 := hv4.2
      refine y_iald (j := v4.toNatClampNeg) (sD1k _ hk_x0) (sD1l _ hk_x0) b5 rfl (dk zX0_spread 39 rfl) ?_
      refine x_iload 4 rfl (dk zX0_spread 40 rfl) ?_
      refine x_iconst (v := -1) (by decide) (dk zX0_spread 41 rfl) ?_
      refine x_ixor (dk zX0_spread 42 rfl) ?_
      refine x_iand (dk zX0_spread 43 rfl) ?_
      refine x_topi (fun v6 ev6 => ?_)
      have hv6 := hb5 v6 ev6
      refine x_istoreG (l' := [(0, .ref x0), (1, .int x1), (2, .ref x2), (3, .int x3), (4, .int x4), (5, .int x5), (6, .int v4), (7, .int v6)]) [1, 2, 3, 4, 5, 6, 7, 0] rfl (by decide) (dk zX0_spread 44 rfl) ?_
      refine x_iload 4 rfl (dk zX0_spread 45 rfl) ?_
      refine x_iload 7 rfl (dk zX0_spread 46 rfl) ?_
      refine x_ior (dk zX0_spread 47 rfl) ?_
      refine x_topi (fun v7 ev7 => ?_)
      have hv7 := hv6 v7 ev7
      refine x_istoreG (l' := [(0, .ref x0), (1, .int x1), (2, .ref x2), (3, .int x3), (4, .int v7), (5, .int x5), (6, .int v4), (7, .int v6)]) [1, 2, 3, 4, 0, 5, 6, 7] rfl (by decide) (dk zX0_spread 48 rfl) ?_
      refine x_iconst (v := 0) (by decide) (dk zX0_spread 49 rfl) ?_
      refine x_istoreG (l' := [(0, .ref x0), (1, .int x1), (2, .ref x2), (3, .int x3), (4, .int v7), (5, .int x5), (6, .int v4), (7, .int v6), (8, .int 0)]) [1, 2, 3, 4, 5, 6, 7, 8, 0] rfl (by decide) (dk zX0_spread 50 rfl) ?_
      exact hv7
set_option maxRecDepth 20000 in
set_option maxHeartbeats 2000000 in
theorem gX0_spread_79 {E : EV} {Q : Po} {μ : Mem} {x0 : Nat} {x1 : Int32} {x2 : Nat} {x3 : Int32} {x4 : Int32} {x5 : Int32} {x6 : Int32} {x7 : Int32} {x8 : Int32} (hk_x0 : kd x0 = 0) (hk_x2 : kd x2 = 20) (hn_x2 : ln x2 = 8) (h : ((8 ≤ x8 → ∀ v2 : Int32, v2 = x5 + 1 → Ex E MX0_spread Q 33 [(0, .ref x0), (1, .int x1), (2, .ref x2), (3, .int x3), (4, .int x4), (5, .int v2)] [] μ) ∧ (¬ 8 ≤ x8 → (((x7 >>> ((x8 : Int32) &&& 31)) = 0 → ∀ v4 : Int32, v4 = x5 + 1 → Ex E MX0_spread Q 33 [(0, .ref x0), (1, .int x1), (2, .ref x2), (3, .int x3), (4, .int x4), (5, .int v4)] [] μ) ∧ (¬ (x7 >>> ((x8 : Int32) &&& 31)) = 0 → ((¬ ((x7 >>> ((x8 : Int32) &&& 31)) &&& 1) = 1 → ∀ v6 : Int32, v6 = x8 + 1 → Ex E MX0_spread Q 79 [(0, .ref x0), (1, .int x1), (2, .ref x2), (3, .int x3), (4, .int x4), (5, .int x5), (6, .int x6), (7, .int x7), (8, .int v6)] [] μ) ∧ (((x7 >>> ((x8 : Int32) &&& 31)) &&& 1) = 1 → ((8 ≤ x3 → ∀ v8 : Int32, v8 = x8 + 1 → Ex E MX0_spread Q 79 [(0, .ref x0), (1, .int x1), (2, .ref x2), (3, .int x3), (4, .int x4), (5, .int x5), (6, .int x6), (7, .int x7), (8, .int v8)] [] μ) ∧ (¬ 8 ≤ x3 → vp_in x6 8 ∧ (∀ v10 : Int32, v10 = (μ.1 x2 x6.toNatClampNeg) + 1 → vp_in x8 8 ∧ (vp_in x3 8 ∧ (∀ v13 : Int32, v13 = x3 + 1 → ∀ v14 : Int32, v14 = x8 + 1 → Ex E MX0_spread Q 79 [(0, .ref x0), (1, .int x1), (2, .ref x2), (3, .int v13), (4, .int x4), (5, .int x5), (6, .int x6), (7, .int x7), (8, .int v14)] [] (mI (mI μ x2 x8.toNatClampNeg v10) (x0 + 11) x3.toNatClampNeg x8))))))))))))) : Ex E MX0_spread Q 79 [(0, .ref x0), (1, .int x1), (2, .ref x2), (3, .int x3), (4, .int x4), (5, .int x5), (6, .int x6), (7, .int x7), (8, .int x8)] [] μ := by
  refine x_iload 8 rfl (dk zX0_spread 51 rfl) ?_
  refine x_bipush (v := 8) (by decide) (dk zX0_spread 52 rfl) ?_
  refine x_icmp_ge (tgt := 138) (by decide) (dk zX0_spread 53 rfl) (fun c1 => ?_) (fun c1 => ?_)
  · have hc1t := h.1 c1
    obtain ⟨v2, ev2⟩ : ∃ y : Int32, y = x5 + 1 := ⟨_, rfl⟩
    have hv2 := hc1t v2 ev2
    refine x_iinc (v := v2) (l' := [(0, .ref x0), (1, .int x1), (2, .ref x2), (3, .int x3), (4, .int x4), (5, .int v2), (6, .int x6), (7, .int x7), (8, .int x8)]) 5 rfl (by rw [ev2]; rfl) [1, 2, 3, 4, 5, 0, 6, 7, 8] rfl (by decide) (dk zX0_spread 84 rfl) ?_
    refine x_goto (tgt := 33) (by decide) (dk zX0_spread 85 rfl) ?_
    exact x_sub [0, 1, 2, 3, 4, 5] rfl hv2
  · have hc1f := h.2 c1
    refine x_iload 7 rfl (dk zX0_spread 54 rfl) ?_
    refine x_iload 8 rfl (dk zX0_spread 55 rfl) ?_
    refine x_ishr (dk zX0_spread 56 rfl) ?_
    refine x_if_eq (tgt := 138) (by decide) (dk zX0_spread 57 rfl) (fun c3 => ?_) (fun c3 => ?_)
    · have hc3t := hc1f.1 c3
      obtain ⟨v4, ev4⟩ : ∃ y : Int32, y = x5 + 1 := ⟨_, rfl⟩
      have hv4 := hc3t v4 ev4
      refine x_iinc (v := v4) (l' := [(0, .ref x0), (1, .int x1), (2, .ref x2), (3, .int x3), (4, .int x4), (5, .int v4), (6, .int x6), (7, .int x7), (8, .int x8)]) 5 rfl (by rw [ev4]; rfl) [1, 2, 3, 4, 5, 0, 6, 7, 8] rfl (by decide) (dk zX0_spread 84 rfl) ?_
      refine x_goto (tgt := 33) (by decide) (dk zX0_spread 85 rfl) ?_
      exact x_sub [0, 1, 2, 3, 4, 5] rfl hv4
    · have hc3f := hc1f.2 c3
      refine x_iload 7 rfl (dk zX0_spread 58 rfl) ?_
      refine x_iload 8 rfl (dk zX0_spread 59 rfl) ?_
      refine x_ishr (dk zX0_spread 60 rfl) ?_
      refine x_iconst (v := 1) (by decide) (dk zX0_spread 61 rfl) ?_
      refine x_iand (dk zX0_spread 62 rfl) ?_
      refine x_iconst (v := 1) (by decide) (dk zX0_spread 63 rfl) ?_
      refine x_icmp_ne (tgt := 132) (by decide) (dk zX0_spread 64 rfl) (fun c5 => ?_) (fun c5 => ?_)
      · have hc5t := hc3f.1 c5
        obtain ⟨v6, ev6⟩ : ∃ y : Int32, y = x8 + 1 := ⟨_, rfl⟩
        have hv6 := hc5t v6 ev6
        refine x_iinc (v := v6) (l' := [(0, .ref x0), (1, .int x1), (2, .ref x2), (3, .int x3), (4, .int x4), (5, .int x5), (6, .int x6), (7, .int x7), (8, .int v6)]) 8 rfl (by rw [ev6]; rfl) [1, 2, 3, 4, 5, 6, 7, 8, 0] rfl (by decide) (dk zX0_spread 82 rfl) ?_
        refine x_goto (tgt := 79) (by decide) (dk zX0_spread 83 rfl) ?_
        exact hv6
      · have hc5f := hc3f.2 c5
        refine x_iload_n 3 rfl rfl (dk zX0_spread 65 rfl) ?_
        refine x_bipush (v := 8) (by decide) (dk zX0_spread 66 rfl) ?_
        refine x_icmp_ge (tgt := 132) (by decide) (dk zX0_spread 67 rfl) (fun c7 => ?_) (fun c7 => ?_)
        · have hc7t := hc5f.1 c7
          obtain ⟨v8, ev8⟩ : ∃ y : Int32, y = x8 + 1 := ⟨_, rfl⟩
          have hv8 := hc7t v8 ev8
          refine x_iinc (v := v8) (l' := [(0, .ref x0), (1, .int x1), (2, .ref x2), (3, .int x3), (4, .int x4), (5, .int x5), (6, .int x6), (7, .int x7), (8, .int v8)]) 8 rfl (by rw [ev8]; rfl) [1, 2, 3, 4, 5, 6, 7, 8, 0] rfl (by decide) (dk zX0_spread 82 rfl) ?_
          refine x_goto (tgt := 79) (by decide) (dk zX0_spread 83 rfl) ?_
          exact hv8
        · have hc7f := hc5f.2 c7
          refine x_aload_n 2 rfl rfl (dk zX0_spread 68 rfl) ?_
          refine x_iload 8 rfl (dk zX0_spread 69 rfl) ?_
          refine x_aload_n 2 rfl rfl (dk zX0_spread 70 rfl) ?_
          refine x_iload 6 rfl (dk zX0_spread 71 rfl) ?_
          have b9 := hc7f.1
          have hb9 := hc7f.2
          refine y_iald (j := x6.toNatClampNeg) hk_x2 hn_x2 b9 rfl (dk zX0_spread 72 rfl) ?_
          refine x_iconst (v := 1) (by decide) (dk zX0_spread 73 rfl) ?_
          refine x_iadd (dk zX0_spread 74 rfl) ?_
          refine x_topi (fun v10 ev10 => ?_)
          have hv10 := hb9 v10 ev10
          have b11 := hv10.1
          have hb11 := hv10.2
          refine y_iast (j := x8.toNatClampNeg) hk_x2 hn_x2 b11 rfl (dk zX0_spread 75 rfl) ?_
          refine x_aload_n 0 rfl rfl (dk zX0_spread 76 rfl) ?_
          refine gf0_2 (r := x0 + 11) rfl hk_x0 (sD2 _ hk_x0) (dk zX0_spread 77 rfl) ?_
          refine x_iload_n 3 rfl rfl (dk zX0_spread 78 rfl) ?_
          refine x_iload 8 rfl (dk zX0_spread 79 rfl) ?_
          have b12 := hb11.1
          have hb12 := hb11.2
          refine y_iast (j := x3.toNatClampNeg) (sD2k _ hk_x0) (sD2l _ hk_x0) b12 rfl (dk zX0_spread 80 rfl) ?_
          obtain ⟨v13, ev13⟩ : ∃ y : Int32, y = x3 + 1 := ⟨_, rfl⟩
          have hv13 := hb12 v13 ev13
          refine x_iinc (v := v13) (l' := [(0, .ref x0), (1, .int x1), (2, .ref x2), (3, .int v13), (4, .int x4), (5, .int x5), (6, .int x6), (7, .int x7), (8, .int x8)]) 3 rfl (by rw [ev13]; rfl) [1, 2, 3, 0, 4, 5, 6, 7, 8] rfl (by decide) (dk zX0_spread 81 rfl) ?_
          obtain ⟨v14, ev14⟩ : ∃ y : Int32, y = x8 + 1 := ⟨_, rfl⟩
          have hv14 := hv13 v14 ev14
          refine x_iinc (v := v14) (l' := [(0, .ref x0), (1, .int x1), (2, .ref x2), (3, .int v13), (4, .int x4), (5, .int x5), (6, .int x6), (7, .int x7), (8, .int v14)]) 8 rfl (by rw [ev14]; rfl) [1, 2, 3, 4, 5, 6, 7, 8, 0] rfl (by decide) (dk zX0_spread 82 rfl) ?_
          refine x_goto (tgt := 79) (by decide) (dk zX0_spread 83 rfl) ?_
          exact hv14
set_option maxRecDepth 20000 in
set_option maxHeartbeats 2000000 in
theorem gX0_measure_0 {E : EV} {Q : Po} {μ : Mem} {x0 : Nat} {x2 : Int32} (hk0 : kd x0 = 0) (h : Sp E MX0_layOut [.ref x0, .ref 1, .int x2] μ (fun v m1 => v = none ∧ Ex E MX0_measure Q 8 [(0, .ref x0), (1, .ref 1), (2, .int x2), (3, .int 0)] [] m1)) : Ex E MX0_measure Q 0 [(0, .ref x0), (1, .ref 1), (2, .int x2)] [] μ := by
  refine x_aload_n 0 rfl rfl (dk zX0_measure 0 rfl) ?_
  refine x_aload_n 1 rfl rfl (dk zX0_measure 1 rfl) ?_
  refine x_iload_n 2 rfl rfl (dk zX0_measure 2 rfl) ?_
  refine x_callV (as := [.ref 1, .int x2]) (o := x0) (ci := 0) (st := []) rfl okRX0_23 npX0_layOut ⟨Nat.le_of_ble_eq_true rfl, Nat.le_of_ble_eq_true rfl⟩ hk0 (by decide) rfl (Nat.le_of_ble_eq_true rfl) (dk zX0_measure 3 rfl) ?_
  refine h.mono ?_
  rintro _ m1 ⟨rfl, hm1⟩
  show Ex E MX0_measure Q 6 [(0, .ref x0), (1, .ref 1), (2, .int x2)] [] m1
  refine x_iconst (v := 0) (by decide) (dk zX0_measure 4 rfl) ?_
  refine x_istore_n (k := 3) (l' := [(0, .ref x0), (1, .ref 1), (2, .int x2), (3, .int 0)]) [1, 2, 3, 0] rfl rfl (by decide) (dk zX0_measure 5 rfl) ?_
  exact hm1
set_option maxRecDepth 20000 in
set_option maxHeartbeats 2000000 in
theorem gX0_measure_8 {E : EV} {Q : Po} {μ : Mem} {x0 : Nat} {x2 : Int32} {x3 : Int32} (hk_x0 : kd x0 = 0) (h : ((8 ≤ x3 → Q none μ) ∧ (¬ 8 ≤ x3 → Sp E MX0_spread [.ref x0, .int x3] μ (fun v m2 => v = none ∧ ∀ v3 : Int32, v3 = x3 + 1 → Ex E MX0_measure Q 8 [(0, .ref x0), (1, .ref 1), (2, .int x2), (3, .int v3)] [] m2)))) : Ex E MX0_measure Q 8 [(0, .ref x0), (1, .ref 1), (2, .int x2), (3, .int x3)] [] μ := by
  refine x_iload_n 3 rfl rfl (dk zX0_measure 6 rfl) ?_
  refine x_bipush (v := 8) (by decide) (dk zX0_measure 7 rfl) ?_
  refine x_icmp_ge (tgt := 25) (by decide) (dk zX0_measure 8 rfl) (fun c1 => ?_) (fun c1 => ?_)
  · have hc1t := h.1 c1
    exact x_vret rfl (dk zX0_measure 14 rfl) hc1t
  · have hc1f := h.2 c1
    refine x_aload_n 0 rfl rfl (dk zX0_measure 9 rfl) ?_
    refine x_iload_n 3 rfl rfl (dk zX0_measure 10 rfl) ?_
    refine x_callV (as := [.int x3]) (o := x0) (ci := 0) (st := []) rfl okRX0_27 npX0_spread ⟨Nat.le_of_ble_eq_true rfl, Nat.le_of_ble_eq_true rfl⟩ hk_x0 (by decide) rfl (Nat.le_of_ble_eq_true rfl) (dk zX0_measure 11 rfl) ?_
    refine hc1f.mono ?_
    rintro _ m2 ⟨rfl, hm2⟩
    show Ex E MX0_measure Q 19 [(0, .ref x0), (1, .ref 1), (2, .int x2), (3, .int x3)] [] m2
    obtain ⟨v3, ev3⟩ : ∃ y : Int32, y = x3 + 1 := ⟨_, rfl⟩
    have hv3 := hm2 v3 ev3
    refine x_iinc (v := v3) (l' := [(0, .ref x0), (1, .ref 1), (2, .int x2), (3, .int v3)]) 3 rfl (by rw [ev3]; rfl) [1, 2, 3, 0] rfl (by decide) (dk zX0_measure 12 rfl) ?_
    refine x_goto (tgt := 8) (by decide) (dk zX0_measure 13 rfl) ?_
    exact hv3
set_option maxRecDepth 20000 in
set_option maxHeartbeats 2000000 in
theorem gX0_measureLinked_0 {E : EV} {Q : Po} {μ : Mem} {x0 : Nat} {x2 : Int32} {x3 : Int32} {x4 : Int32} (hk0 : kd x0 = 0) (h : Sp E MX0_layOut [.ref x0, .ref 1, .int x2] μ (fun v m1 => v = none ∧ Sp E MX0_link [.ref x0, .int x3, .int x4] m1 (fun v m2 => v = none ∧ Ex E MX0_measureLinked Q 16 [(0, .ref x0), (1, .ref 1), (2, .int x2), (3, .int x3), (4, .int x4), (5, .int 0)] [] m2))) : Ex E MX0_measureLinked Q 0 [(0, .ref x0), (1, .ref 1), (2, .int x2), (3, .int x3), (4, .int x4)] [] μ := by
  refine x_aload_n 0 rfl rfl (dk zX0_measureLinked 0 rfl) ?_
  refine x_aload_n 1 rfl rfl (dk zX0_measureLinked 1 rfl) ?_
  refine x_iload_n 2 rfl rfl (dk zX0_measureLinked 2 rfl) ?_
  refine x_callV (as := [.ref 1, .int x2]) (o := x0) (ci := 0) (st := []) rfl okRX0_23 npX0_layOut ⟨Nat.le_of_ble_eq_true rfl, Nat.le_of_ble_eq_true rfl⟩ hk0 (by decide) rfl (Nat.le_of_ble_eq_true rfl) (dk zX0_measureLinked 3 rfl) ?_
  refine h.mono ?_
  rintro _ m1 ⟨rfl, hm1⟩
  show Ex E MX0_measureLinked Q 6 [(0, .ref x0), (1, .ref 1), (2, .int x2), (3, .int x3), (4, .int x4)] [] m1
  refine x_aload_n 0 rfl rfl (dk zX0_measureLinked 4 rfl) ?_
  refine x_iload_n 3 rfl rfl (dk zX0_measureLinked 5 rfl) ?_
  refine x_iload 4 rfl (dk zX0_measureLinked 6 rfl) ?_
  refine x_callV (as := [.int x3, .int x4]) (o := x0) (ci := 0) (st := []) rfl okRX0_31 npX0_link ⟨Nat.le_of_ble_eq_true rfl, Nat.le_of_ble_eq_true rfl⟩ hk0 (by decide) rfl (Nat.le_of_ble_eq_true rfl) (dk zX0_measureLinked 7 rfl) ?_
  refine hm1.mono ?_
  rintro _ m2 ⟨rfl, hm2⟩
  show Ex E MX0_measureLinked Q 13 [(0, .ref x0), (1, .ref 1), (2, .int x2), (3, .int x3), (4, .int x4)] [] m2
  refine x_iconst (v := 0) (by decide) (dk zX0_measureLinked 8 rfl) ?_
  refine x_istoreG (l' := [(0, .ref x0), (1, .ref 1), (2, .int x2), (3, .int x3), (4, .int x4), (5, .int 0)]) [1, 2, 3, 4, 5, 0] rfl (by decide) (dk zX0_measureLinked 9 rfl) ?_
  exact hm2
set_option maxRecDepth 20000 in
set_option maxHeartbeats 2000000 in
theorem gX0_measureLinked_16 {E : EV} {Q : Po} {μ : Mem} {x0 : Nat} {x2 : Int32} {x3 : Int32} {x4 : Int32} {x5 : Int32} (hk_x0 : kd x0 = 0) (h : ((8 ≤ x5 → Q none μ) ∧ (¬ 8 ≤ x5 → Sp E MX0_spread [.ref x0, .int x5] μ (fun v m2 => v = none ∧ ∀ v3 : Int32, v3 = x5 + 1 → Ex E MX0_measureLinked Q 16 [(0, .ref x0), (1, .ref 1), (2, .int x2), (3, .int x3), (4, .int x4), (5, .int v3)] [] m2)))) : Ex E MX0_measureLinked Q 16 [(0, .ref x0), (1, .ref 1), (2, .int x2), (3, .int x3), (4, .int x4), (5, .int x5)] [] μ := by
  refine x_iload 5 rfl (dk zX0_measureLinked 10 rfl) ?_
  refine x_bipush (v := 8) (by decide) (dk zX0_measureLinked 11 rfl) ?_
  refine x_icmp_ge (tgt := 35) (by decide) (dk zX0_measureLinked 12 rfl) (fun c1 => ?_) (fun c1 => ?_)
  · have hc1t := h.1 c1
    exact x_vret rfl (dk zX0_measureLinked 18 rfl) hc1t
  · have hc1f := h.2 c1
    refine x_aload_n 0 rfl rfl (dk zX0_measureLinked 13 rfl) ?_
    refine x_iload 5 rfl (dk zX0_measureLinked 14 rfl) ?_
    refine x_callV (as := [.int x5]) (o := x0) (ci := 0) (st := []) rfl okRX0_27 npX0_spread ⟨Nat.le_of_ble_eq_true rfl, Nat.le_of_ble_eq_true rfl⟩ hk_x0 (by decide) rfl (Nat.le_of_ble_eq_true rfl) (dk zX0_measureLinked 15 rfl) ?_
    refine hc1f.mono ?_
    rintro _ m2 ⟨rfl, hm2⟩
    show Ex E MX0_measureLinked Q 29 [(0, .ref x0), (1, .ref 1), (2, .int x2), (3, .int x3), (4, .int x4), (5, .int x5)] [] m2
    obtain ⟨v3, ev3⟩ : ∃ y : Int32, y = x5 + 1 := ⟨_, rfl⟩
    have hv3 := hm2 v3 ev3
    refine x_iinc (v := v3) (l' := [(0, .ref x0), (1, .ref 1), (2, .int x2), (3, .int x3), (4, .int x4), (5, .int v3)]) 5 rfl (by rw [ev3]; rfl) [1, 2, 3, 4, 5, 0] rfl (by decide) (dk zX0_measureLinked 16 rfl) ?_
    refine x_goto (tgt := 16) (by decide) (dk zX0_measureLinked 17 rfl) ?_
    exact hv3
set_option maxRecDepth 20000 in
set_option maxHeartbeats 2000000 in
theorem gX0_measureFrom_0 {E : EV} {Q : Po} {μ : Mem} {x0 : Nat} {x2 : Int32} {x3 : Int32} (hk0 : kd x0 = 0) (h : Sp E MX0_layOut [.ref x0, .ref 1, .int x2] μ (fun v m1 => v = none ∧ Sp E MX10_isTown [.int x3] m1 (fun v m2 => ∃ r3 : Int32, v = some (.int r3) ∧ ((r3 = 0 → Q none m2) ∧ (¬ r3 = 0 → Sp E MX0_spread [.ref x0, .int x3] m2 (fun v m5 => v = none ∧ Q none m5)))))) : Ex E MX0_measureFrom Q 0 [(0, .ref x0), (1, .ref 1), (2, .int x2), (3, .int x3)] [] μ := by
  refine x_aload_n 0 rfl rfl (dk zX0_measureFrom 0 rfl) ?_
  refine x_aload_n 1 rfl rfl (dk zX0_measureFrom 1 rfl) ?_
  refine x_iload_n 2 rfl rfl (dk zX0_measureFrom 2 rfl) ?_
  refine x_callV (as := [.ref 1, .int x2]) (o := x0) (ci := 0) (st := []) rfl okRX0_23 npX0_layOut ⟨Nat.le_of_ble_eq_true rfl, Nat.le_of_ble_eq_true rfl⟩ hk0 (by decide) rfl (Nat.le_of_ble_eq_true rfl) (dk zX0_measureFrom 3 rfl) ?_
  refine h.mono ?_
  rintro _ m1 ⟨rfl, hm1⟩
  show Ex E MX0_measureFrom Q 6 [(0, .ref x0), (1, .ref 1), (2, .int x2), (3, .int x3)] [] m1
  refine x_iload_n 3 rfl rfl (dk zX0_measureFrom 4 rfl) ?_
  refine x_callSN (M' := MX10_isTown) (as := [.int x3]) (st := []) (own := RX0) (host := RX10) rfl (fun _ h => h.1) wcX10_isTown wsX10_isTown wi0 nh0.1 nh0.2 npX10_isTown ⟨Nat.le_of_ble_eq_true rfl, Nat.le_of_ble_eq_true rfl⟩ (Nat.le_of_ble_eq_true rfl) (dk zX0_measureFrom 5 rfl) ?_
  refine hm1.mono ?_
  rintro _ m2 ⟨r3, rfl, hm2⟩
  show Ex E MX0_measureFrom Q 10 [(0, .ref x0), (1, .ref 1), (2, .int x2), (3, .int x3)] [.int r3] m2
  refine x_if_eq (tgt := 18) (by decide) (dk zX0_measureFrom 6 rfl) (fun c4 => ?_) (fun c4 => ?_)
  · have hc4t := hm2.1 c4
    exact x_vret rfl (dk zX0_measureFrom 10 rfl) hc4t
  · have hc4f := hm2.2 c4
    refine x_aload_n 0 rfl rfl (dk zX0_measureFrom 7 rfl) ?_
    refine x_iload_n 3 rfl rfl (dk zX0_measureFrom 8 rfl) ?_
    refine x_callV (as := [.int x3]) (o := x0) (ci := 0) (st := []) rfl okRX0_27 npX0_spread ⟨Nat.le_of_ble_eq_true rfl, Nat.le_of_ble_eq_true rfl⟩ hk0 (by decide) rfl (Nat.le_of_ble_eq_true rfl) (dk zX0_measureFrom 9 rfl) ?_
    refine hc4f.mono ?_
    rintro _ m5 ⟨rfl, hm5⟩
    show Ex E MX0_measureFrom Q 18 [(0, .ref x0), (1, .ref 1), (2, .int x2), (3, .int x3)] [] m5
    exact x_vret rfl (dk zX0_measureFrom 10 rfl) hm5
set_option maxRecDepth 20000 in
set_option maxHeartbeats 2000000 in
theorem gX0_between_0 {E : EV} {Q : Po} {μ : Mem} {x0 : Nat} {x1 : Int32} {x2 : Int32} (hk0 : kd x0 = 0) (h : Sp E MX10_isTown [.int x1] μ (fun v m1 => ∃ r2 : Int32, v = some (.int r2) ∧ ((r2 = 0 → Q (some (.int ((-1)))) m1) ∧ (¬ r2 = 0 → Sp E MX10_isTown [.int x2] m1 (fun v m4 => ∃ r5 : Int32, v = some (.int r5) ∧ ((r5 = 0 → Q (some (.int ((-1)))) m4) ∧ (¬ r5 = 0 → vp_in x1 8 ∧ (vp_in x2 8 ∧ (Q (some (.int (m4.1 (x0 + 2 + x1.toNatClampNeg) x2.toNatClampNeg))) m4))))))))) : Ex E MX0_between Q 0 [(0, .ref x0), (1, .int x1), (2, .int x2)] [] μ := by
  refine x_iload_n 1 rfl rfl (dk zX0_between 0 rfl) ?_
  refine x_callSN (M' := MX10_isTown) (as := [.int x1]) (st := []) (own := RX0) (host := RX10) rfl (fun _ h => h.1) wcX10_isTown wsX10_isTown wi0 nh0.1 nh0.2 npX10_isTown ⟨Nat.le_of_ble_eq_true rfl, Nat.le_of_ble_eq_true rfl⟩ (Nat.le_of_ble_eq_true rfl) (dk zX0_between 1 rfl) ?_
  refine h.mono ?_
  rintro _ m1 ⟨r2, rfl, hm1⟩
  show Ex E MX0_between Q 4 [(0, .ref x0), (1, .int x1), (2, .int x2)] [.int r2] m1
  refine x_if_eq (tgt := 25) (by decide) (dk zX0_between 2 rfl) (fun c3 => ?_) (fun c3 => ?_)
  · have hc3t := hm1.1 c3
    refine x_iconst (v := -1) (by decide) (dk zX0_between 13 rfl) ?_
    exact x_iret (ty := .int) rfl rfl (dk zX0_between 14 rfl) hc3t
  · have hc3f := hm1.2 c3
    refine x_iload_n 2 rfl rfl (dk zX0_between 3 rfl) ?_
    refine x_callSN (M' := MX10_isTown) (as := [.int x2]) (st := []) (own := RX0) (host := RX10) rfl (fun _ h => h.1) wcX10_isTown wsX10_isTown wi0 nh0.1 nh0.2 npX10_isTown ⟨Nat.le_of_ble_eq_true rfl, Nat.le_of_ble_eq_true rfl⟩ (Nat.le_of_ble_eq_true rfl) (dk zX0_between 4 rfl) ?_
    refine hc3f.mono ?_
    rintro _ m4 ⟨r5, rfl, hm4⟩
    show Ex E MX0_between Q 11 [(0, .ref x0), (1, .int x1), (2, .int x2)] [.int r5] m4
    refine x_if_eq (tgt := 25) (by decide) (dk zX0_between 5 rfl) (fun c6 => ?_) (fun c6 => ?_)
    · have hc6t := hm4.1 c6
      refine x_iconst (v := -1) (by decide) (dk zX0_between 13 rfl) ?_
      exact x_iret (ty := .int) rfl rfl (dk zX0_between 14 rfl) hc6t
    · have hc6f := hm4.2 c6
      refine x_aload_n 0 rfl rfl (dk zX0_between 6 rfl) ?_
      refine gf0_0 (r := x0 + 1) rfl hk0 (sD0 _ hk0) (dk zX0_between 7 rfl) ?_
      refine x_iload_n 1 rfl rfl (dk zX0_between 8 rfl) ?_
      have b7 := hc6f.1
      have hb7 := hc6f.2
      refine y_aaldI (b := x0 + 2 + x1.toNatClampNeg) (sD0k _ hk0) (sD0l _ hk0) b7 (by omega) (dk zX0_between 9 rfl) ?_
      refine x_iload_n 2 rfl rfl (dk zX0_between 10 rfl) ?_
      have b8 := hb7.1
      have hb8 := hb7.2
      refine y_iald (j := x2.toNatClampNeg) (sDrk hk0 b7) (sDrl hk0 b7) b8 rfl (dk zX0_between 11 rfl) ?_
      refine x_goto (tgt := 26) (by decide) (dk zX0_between 12 rfl) ?_
      exact x_iret (ty := .int) rfl rfl (dk zX0_between 14 rfl) hb8
set_option maxRecDepth 20000 in
set_option maxHeartbeats 2000000 in
theorem gX0_reachedFrom_0 {E : EV} {Q : Po} {μ : Mem} {x0 : Nat} {x1 : Int32} (hk0 : kd x0 = 0) (h : Ex E MX0_reachedFrom Q 4 [(0, .ref x0), (1, .int x1), (2, .int 0), (3, .int 0)] [] μ) : Ex E MX0_reachedFrom Q 0 [(0, .ref x0), (1, .int x1)] [] μ := by
  refine x_iconst (v := 0) (by decide) (dk zX0_reachedFrom 0 rfl) ?_
  refine x_istore_n (k := 2) (l' := [(0, .ref x0), (1, .int x1), (2, .int 0)]) [1, 2, 0] rfl rfl (by decide) (dk zX0_reachedFrom 1 rfl) ?_
  refine x_iconst (v := 0) (by decide) (dk zX0_reachedFrom 2 rfl) ?_
  refine x_istore_n (k := 3) (l' := [(0, .ref x0), (1, .int x1), (2, .int 0), (3, .int 0)]) [1, 2, 3, 0] rfl rfl (by decide) (dk zX0_reachedFrom 3 rfl) ?_
  exact h
set_option maxRecDepth 20000 in
set_option maxHeartbeats 2000000 in
theorem gX0_reachedFrom_4 {E : EV} {Q : Po} {μ : Mem} {x0 : Nat} {x1 : Int32} {x2 : Int32} {x3 : Int32} (hk_x0 : kd x0 = 0) (h : ((8 ≤ x3 → Q (some (.int x2)) μ) ∧ (¬ 8 ≤ x3 → Sp E MX0_between [.ref x0, .int x1, .int x3] μ (fun v m2 => ∃ r3 : Int32, v = some (.int r3) ∧ ((r3 = ((-1)) → ∀ v5 : Int32, v5 = x3 + 1 → Ex E MX0_reachedFrom Q 4 [(0, .ref x0), (1, .int x1), (2, .int x2), (3, .int v5)] [] m2) ∧ (¬ r3 = ((-1)) → ∀ v6 : Int32, v6 = x2 ||| (1 <<< ((x3 : Int32) &&& 31)) → ∀ v7 : Int32, v7 = x3 + 1 → Ex E MX0_reachedFrom Q 4 [(0, .ref x0), (1, .int x1), (2, .int v6), (3, .int v7)] [] m2)))))) : Ex E MX0_reachedFrom Q 4 [(0, .ref x0), (1, .int x1), (2, .int x2), (3, .int x3)] [] μ := by
  refine x_iload_n 3 rfl rfl (dk zX0_reachedFrom 4 rfl) ?_
  refine x_bipush (v := 8) (by decide) (dk zX0_reachedFrom 5 rfl) ?_
  refine x_icmp_ge (tgt := 32) (by decide) (dk zX0_reachedFrom 6 rfl) (fun c1 => ?_) (fun c1 => ?_)
  · have hc1t := h.1 c1
    refine x_iload_n 2 rfl rfl (dk zX0_reachedFrom 21 rfl) ?_
    exact x_iret (ty := .int) rfl rfl (dk zX0_reachedFrom 22 rfl) hc1t
  · have hc1f := h.2 c1
    refine x_aload_n 0 rfl rfl (dk zX0_reachedFrom 7 rfl) ?_
    refine x_iload_n 1 rfl rfl (dk zX0_reachedFrom 8 rfl) ?_
    refine x_iload_n 3 rfl rfl (dk zX0_reachedFrom 9 rfl) ?_
    refine x_callV (as := [.int x1, .int x3]) (o := x0) (ci := 0) (st := []) rfl okRX0_39 npX0_between ⟨Nat.le_of_ble_eq_true rfl, Nat.le_of_ble_eq_true rfl⟩ hk_x0 (by decide) rfl (Nat.le_of_ble_eq_true rfl) (dk zX0_reachedFrom 10 rfl) ?_
    refine hc1f.mono ?_
    rintro _ m2 ⟨r3, rfl, hm2⟩
    show Ex E MX0_reachedFrom Q 16 [(0, .ref x0), (1, .int x1), (2, .int x2), (3, .int x3)] [.int r3] m2
    refine x_iconst (v := -1) (by decide) (dk zX0_reachedFrom 11 rfl) ?_
    refine x_icmp_eq (tgt := 26) (by decide) (dk zX0_reachedFrom 12 rfl) (fun c4 => ?_) (fun c4 => ?_)
    · have hc4t := hm2.1 c4
      obtain ⟨v5, ev5⟩ : ∃ y : Int32, y = x3 + 1 := ⟨_, rfl⟩
      have hv5 := hc4t v5 ev5
      refine x_iinc (v := v5) (l' := [(0, .ref x0), (1, .int x1), (2, .int x2), (3, .int v5)]) 3 rfl (by rw [ev5]; rfl) [1, 2, 3, 0] rfl (by decide) (dk zX0_reachedFrom 19 rfl) ?_
      refine x_goto (tgt := 4) (by decide) (dk zX0_reachedFrom 20 rfl) ?_
      exact hv5
    · have hc4f := hm2.2 c4
      refine x_iload_n 2 rfl rfl (dk zX0_reachedFrom 13 rfl) ?_
      refine x_iconst (v := 1) (by decide) (dk zX0_reachedFrom 14 rfl) ?_
      refine x_iload_n 3 rfl rfl (dk zX0_reachedFrom 15 rfl) ?_
      refine x_ishl (dk zX0_reachedFrom 16 rfl) ?_
      refine x_ior (dk zX0_reachedFrom 17 rfl) ?_
      refine x_topi (fun v6 ev6 => ?_)
      have hv6 := hc4f v6 ev6
      refine x_istore_n (k := 2) (l' := [(0, .ref x0), (1, .int x1), (2, .int v6), (3, .int x3)]) [1, 2, 0, 3] rfl rfl (by decide) (dk zX0_reachedFrom 18 rfl) ?_
      obtain ⟨v7, ev7⟩ : ∃ y : Int32, y = x3 + 1 := ⟨_, rfl⟩
      have hv7 := hv6 v7 ev7
      refine x_iinc (v := v7) (l' := [(0, .ref x0), (1, .int x1), (2, .int v6), (3, .int v7)]) 3 rfl (by rw [ev7]; rfl) [1, 2, 3, 0] rfl (by decide) (dk zX0_reachedFrom 19 rfl) ?_
      refine x_goto (tgt := 4) (by decide) (dk zX0_reachedFrom 20 rfl) ?_
      exact hv7
set_option maxRecDepth 20000 in
set_option maxHeartbeats 2000000 in
theorem gX0_pairsUnlike_0 {E : EV} {Q : Po} {μ : Mem} {x0 : Nat} {x1 : Nat} (hk0 : kd x0 = 0) (hk1 : kd x1 = 0) (h : Ex E MX0_pairsUnlike Q 4 [(0, .ref x0), (1, .ref x1), (2, .int 0), (3, .int 0)] [] μ) : Ex E MX0_pairsUnlike Q 0 [(0, .ref x0), (1, .ref x1)] [] μ := by
  refine x_iconst (v := 0) (by decide) (dk zX0_pairsUnlike 0 rfl) ?_
  refine x_istore_n (k := 2) (l' := [(0, .ref x0), (1, .ref x1), (2, .int 0)]) [1, 2, 0] rfl rfl (by decide) (dk zX0_pairsUnlike 1 rfl) ?_
  refine x_iconst (v := 0) (by decide) (dk zX0_pairsUnlike 2 rfl) ?_
  refine x_istore_n (k := 3) (l' := [(0, .ref x0), (1, .ref x1), (2, .int 0), (3, .int 0)]) [1, 2, 3, 0] rfl rfl (by decide) (dk zX0_pairsUnlike 3 rfl) ?_
  exact h
set_option maxRecDepth 20000 in
set_option maxHeartbeats 2000000 in
theorem gX0_pairsUnlike_4 {E : EV} {Q : Po} {μ : Mem} {x0 : Nat} {x1 : Nat} {x2 : Int32} {x3 : Int32} (hk_x0 : kd x0 = 0) (hk_x1 : kd x1 = 0) (h : ((8 ≤ x3 → Q (some (.int x2)) μ) ∧ (¬ 8 ≤ x3 → ∀ v2 : Int32, v2 = x3 + 1 → Ex E MX0_pairsUnlike Q 15 [(0, .ref x0), (1, .ref x1), (2, .int x2), (3, .int x3), (4, .int v2)] [] μ))) : Ex E MX0_pairsUnlike Q 4 [(0, .ref x0), (1, .ref x1), (2, .int x2), (3, .int x3)] [] μ := by
  refine x_iload_n 3 rfl rfl (dk zX0_pairsUnlike 4 rfl) ?_
  refine x_bipush (v := 8) (by decide) (dk zX0_pairsUnlike 5 rfl) ?_
  refine x_icmp_ge (tgt := 56) (by decide) (dk zX0_pairsUnlike 6 rfl) (fun c1 => ?_) (fun c1 => ?_)
  · have hc1t := h.1 c1
    refine x_iload_n 2 rfl rfl (dk zX0_pairsUnlike 30 rfl) ?_
    exact x_iret (ty := .int) rfl rfl (dk zX0_pairsUnlike 31 rfl) hc1t
  · have hc1f := h.2 c1
    refine x_iload_n 3 rfl rfl (dk zX0_pairsUnlike 7 rfl) ?_
    refine x_iconst (v := 1) (by decide) (dk zX0_pairsUnlike 8 rfl) ?_
    refine x_iadd (dk zX0_pairsUnlike 9 rfl) ?_
    refine x_topi (fun v2 ev2 => ?_)
    have hv2 := hc1f v2 ev2
    refine x_istoreG (l' := [(0, .ref x0), (1, .ref x1), (2, .int x2), (3, .int x3), (4, .int v2)]) [1, 2, 3, 4, 0] rfl (by decide) (dk zX0_pairsUnlike 10 rfl) ?_
    exact hv2
set_option maxRecDepth 20000 in
set_option maxHeartbeats 2000000 in
theorem gX0_pairsUnlike_15 {E : EV} {Q : Po} {μ : Mem} {x0 : Nat} {x1 : Nat} {x2 : Int32} {x3 : Int32} {x4 : Int32} (hk_x0 : kd x0 = 0) (hk_x1 : kd x1 = 0) (h : ((8 ≤ x4 → ∀ v2 : Int32, v2 = x3 + 1 → Ex E MX0_pairsUnlike Q 4 [(0, .ref x0), (1, .ref x1), (2, .int x2), (3, .int v2)] [] μ) ∧ (¬ 8 ≤ x4 → vp_in x3 8 ∧ (vp_in x4 8 ∧ (Sp E MX0_between [.ref x1, .int x3, .int x4] μ (fun v m5 => ∃ r6 : Int32, v = some (.int r6) ∧ (((μ.1 (x0 + 2 + x3.toNatClampNeg) x4.toNatClampNeg) = r6 → ∀ v8 : Int32, v8 = x4 + 1 → Ex E MX0_pairsUnlike Q 15 [(0, .ref x0), (1, .ref x1), (2, .int x2), (3, .int x3), (4, .int v8)] [] m5) ∧ (¬ (μ.1 (x0 + 2 + x3.toNatClampNeg) x4.toNatClampNeg) = r6 → ∀ v9 : Int32, v9 = x2 + 1 → ∀ v10 : Int32, v10 = x4 + 1 → Ex E MX0_pairsUnlike Q 15 [(0, .ref x0), (1, .ref x1), (2, .int v9), (3, .int x3), (4, .int v10)] [] m5)))))))) : Ex E MX0_pairsUnlike Q 15 [(0, .ref x0), (1, .ref x1), (2, .int x2), (3, .int x3), (4, .int x4)] [] μ := by
  refine x_iload 4 rfl (dk zX0_pairsUnlike 11 rfl) ?_
  refine x_bipush (v := 8) (by decide) (dk zX0_pairsUnlike 12 rfl) ?_
  refine x_icmp_ge (tgt := 50) (by decide) (dk zX0_pairsUnlike 13 rfl) (fun c1 => ?_) (fun c1 => ?_)
  · have hc1t := h.1 c1
    obtain ⟨v2, ev2⟩ : ∃ y : Int32, y = x3 + 1 := ⟨_, rfl⟩
    have hv2 := hc1t v2 ev2
    refine x_iinc (v := v2) (l' := [(0, .ref x0), (1, .ref x1), (2, .int x2), (3, .int v2), (4, .int x4)]) 3 rfl (by rw [ev2]; rfl) [1, 2, 3, 0, 4] rfl (by decide) (dk zX0_pairsUnlike 28 rfl) ?_
    refine x_goto (tgt := 4) (by decide) (dk zX0_pairsUnlike 29 rfl) ?_
    exact x_sub [0, 1, 2, 3] rfl hv2
  · have hc1f := h.2 c1
    refine x_aload_n 0 rfl rfl (dk zX0_pairsUnlike 14 rfl) ?_
    refine gf0_0 (r := x0 + 1) rfl hk_x0 (sD0 _ hk_x0) (dk zX0_pairsUnlike 15 rfl) ?_
    refine x_iload_n 3 rfl rfl (dk zX0_pairsUnlike 16 rfl) ?_
    have b3 := hc1f.1
    have hb3 := hc1f.2
    refine y_aaldI (b := x0 + 2 + x3.toNatClampNeg) (sD0k _ hk_x0) (sD0l _ hk_x0) b3 (by omega) (dk zX0_pairsUnlike 17 rfl) ?_
    refine x_iload 4 rfl (dk zX0_pairsUnlike 18 rfl) ?_
    have b4 := hb3.1
    have hb4 := hb3.2
    refine y_iald (j := x4.toNatClampNeg) (sDrk hk_x0 b3) (sDrl hk_x0 b3) b4 rfl (dk zX0_pairsUnlike 19 rfl) ?_
    refine x_aload_n 1 rfl rfl (dk zX0_pairsUnlike 20 rfl) ?_
    refine x_iload_n 3 rfl rfl (dk zX0_pairsUnlike 21 rfl) ?_
    refine x_iload 4 rfl (dk zX0_pairsUnlike 22 rfl) ?_
    refine x_callV (as := [.int x3, .int x4]) (o := x1) (ci := 0) (st := [.int (μ.1 (x0 + 2 + x3.toNatClampNeg) x4.toNatClampNeg)]) rfl okRX0_39 npX0_between ⟨Nat.le_of_ble_eq_true rfl, Nat.le_of_ble_eq_true rfl⟩ hk_x1 (by decide) rfl (Nat.le_of_ble_eq_true rfl) (dk zX0_pairsUnlike 23 rfl) ?_
    refine hb4.mono ?_
    rintro _ m5 ⟨r6, rfl, hm5⟩
    show Ex E MX0_pairsUnlike Q 38 [(0, .ref x0), (1, .ref x1), (2, .int x2), (3, .int x3), (4, .int x4)] [.int r6, .int (μ.1 (x0 + 2 + x3.toNatClampNeg) x4.toNatClampNeg)] m5
    refine x_icmp_eq (tgt := 44) (by decide) (dk zX0_pairsUnlike 24 rfl) (fun c7 => ?_) (fun c7 => ?_)
    · have hc7t := hm5.1 c7
      obtain ⟨v8, ev8⟩ : ∃ y : Int32, y = x4 + 1 := ⟨_, rfl⟩
      have hv8 := hc7t v8 ev8
      refine x_iinc (v := v8) (l' := [(0, .ref x0), (1, .ref x1), (2, .int x2), (3, .int x3), (4, .int v8)]) 4 rfl (by rw [ev8]; rfl) [1, 2, 3, 4, 0] rfl (by decide) (dk zX0_pairsUnlike 26 rfl) ?_
      refine x_goto (tgt := 15) (by decide) (dk zX0_pairsUnlike 27 rfl) ?_
      exact hv8
    · have hc7f := hm5.2 c7
      obtain ⟨v9, ev9⟩ : ∃ y : Int32, y = x2 + 1 := ⟨_, rfl⟩
      have hv9 := hc7f v9 ev9
      refine x_iinc (v := v9) (l' := [(0, .ref x0), (1, .ref x1), (2, .int v9), (3, .int x3), (4, .int x4)]) 2 rfl (by rw [ev9]; rfl) [1, 2, 0, 3, 4] rfl (by decide) (dk zX0_pairsUnlike 25 rfl) ?_
      obtain ⟨v10, ev10⟩ : ∃ y : Int32, y = x4 + 1 := ⟨_, rfl⟩
      have hv10 := hv9 v10 ev10
      refine x_iinc (v := v10) (l' := [(0, .ref x0), (1, .ref x1), (2, .int v9), (3, .int x3), (4, .int v10)]) 4 rfl (by rw [ev10]; rfl) [1, 2, 3, 4, 0] rfl (by decide) (dk zX0_pairsUnlike 26 rfl) ?_
      refine x_goto (tgt := 15) (by decide) (dk zX0_pairsUnlike 27 rfl) ?_
      exact hv10
set_option maxRecDepth 20000 in
set_option maxHeartbeats 2000000 in
theorem gX0_mostUnlike_0 {E : EV} {Q : Po} {μ : Mem} {x0 : Nat} {x1 : Nat} (hk0 : kd x0 = 0) (hk1 : kd x1 = 0) (h : Ex E MX0_mostUnlike Q 4 [(0, .ref x0), (1, .ref x1), (2, .int 0), (3, .int 0)] [] μ) : Ex E MX0_mostUnlike Q 0 [(0, .ref x0), (1, .ref x1)] [] μ := by
  refine x_iconst (v := 0) (by decide) (dk zX0_mostUnlike 0 rfl) ?_
  refine x_istore_n (k := 2) (l' := [(0, .ref x0), (1, .ref x1), (2, .int 0)]) [1, 2, 0] rfl rfl (by decide) (dk zX0_mostUnlike 1 rfl) ?_
  refine x_iconst (v := 0) (by decide) (dk zX0_mostUnlike 2 rfl) ?_
  refine x_istore_n (k := 3) (l' := [(0, .ref x0), (1, .ref x1), (2, .int 0), (3, .int 0)]) [1, 2, 3, 0] rfl rfl (by decide) (dk zX0_mostUnlike 3 rfl) ?_
  exact h
set_option maxRecDepth 20000 in
set_option maxHeartbeats 2000000 in
theorem gX0_mostUnlike_4 {E : EV} {Q : Po} {μ : Mem} {x0 : Nat} {x1 : Nat} {x2 : Int32} {x3 : Int32} (hk_x0 : kd x0 = 0) (hk_x1 : kd x1 = 0) (h : ((8 ≤ x3 → Q (some (.int x2)) μ) ∧ (¬ 8 ≤ x3 → ∀ v2 : Int32, v2 = x3 + 1 → Ex E MX0_mostUnlike Q 15 [(0, .ref x0), (1, .ref x1), (2, .int x2), (3, .int x3), (4, .int v2)] [] μ))) : Ex E MX0_mostUnlike Q 4 [(0, .ref x0), (1, .ref x1), (2, .int x2), (3, .int x3)] [] μ := by
  refine x_iload_n 3 rfl rfl (dk zX0_mostUnlike 4 rfl) ?_
  refine x_bipush (v := 8) (by decide) (dk zX0_mostUnlike 5 rfl) ?_
  refine x_icmp_ge (tgt := 79) (by decide) (dk zX0_mostUnlike 6 rfl) (fun c1 => ?_) (fun c1 => ?_)
  · have hc1t := h.1 c1
    refine x_iload_n 2 rfl rfl (dk zX0_mostUnlike 43 rfl) ?_
    exact x_iret (ty := .int) rfl rfl (dk zX0_mostUnlike 44 rfl) hc1t
  · have hc1f := h.2 c1
    refine x_iload_n 3 rfl rfl (dk zX0_mostUnlike 7 rfl) ?_
    refine x_iconst (v := 1) (by decide) (dk zX0_mostUnlike 8 rfl) ?_
    refine x_iadd (dk zX0_mostUnlike 9 rfl) ?_
    refine x_topi (fun v2 ev2 => ?_)
    have hv2 := hc1f v2 ev2
    refine x_istoreG (l' := [(0, .ref x0), (1, .ref x1), (2, .int x2), (3, .int x3), (4, .int v2)]) [1, 2, 3, 4, 0] rfl (by decide) (dk zX0_mostUnlike 10 rfl) ?_
    exact hv2
set_option maxRecDepth 20000 in
set_option maxHeartbeats 2000000 in
theorem gX0_mostUnlike_15 {E : EV} {Q : Po} {μ : Mem} {x0 : Nat} {x1 : Nat} {x2 : Int32} {x3 : Int32} {x4 : Int32} (hk_x0 : kd x0 = 0) (hk_x1 : kd x1 = 0) (h : ((8 ≤ x4 → ∀ v2 : Int32, v2 = x3 + 1 → Ex E MX0_mostUnlike Q 4 [(0, .ref x0), (1, .ref x1), (2, .int x2), (3, .int v2)] [] μ) ∧ (¬ 8 ≤ x4 → vp_in x3 8 ∧ (vp_in x4 8 ∧ (∀ v5 : Int32, v5 = μ.1 (x0 + 2 + x3.toNatClampNeg) x4.toNatClampNeg → Sp E MX0_between [.ref x1, .int x3, .int x4] μ (fun v m6 => ∃ r7 : Int32, v = some (.int r7) ∧ ((v5 = ((-1)) → ∀ v9 : Int32, v9 = x4 + 1 → Ex E MX0_mostUnlike Q 15 [(0, .ref x0), (1, .ref x1), (2, .int x2), (3, .int x3), (4, .int v9)] [] m6) ∧ (¬ v5 = ((-1)) → ((r7 = ((-1)) → ∀ v11 : Int32, v11 = x4 + 1 → Ex E MX0_mostUnlike Q 15 [(0, .ref x0), (1, .ref x1), (2, .int x2), (3, .int x3), (4, .int v11)] [] m6) ∧ (¬ r7 = ((-1)) → ∀ v12 : Int32, v12 = (if x2 < (if 0 ≤ (v5 - r7) then (v5 - r7) else 0 - (v5 - r7)) then (if 0 ≤ (v5 - r7) then (v5 - r7) else 0 - (v5 - r7)) else x2) → ∀ v13 : Int32, v13 = x4 + 1 → Ex E MX0_mostUnlike Q 15 [(0, .ref x0), (1, .ref x1), (2, .int v12), (3, .int x3), (4, .int v13)] [] m6)))))))))) : Ex E MX0_mostUnlike Q 15 [(0, .ref x0), (1, .ref x1), (2, .int x2), (3, .int x3), (4, .int x4)] [] μ := by
  refine x_iload 4 rfl (dk zX0_mostUnlike 11 rfl) ?_
  refine x_bipush (v := 8) (by decide) (dk zX0_mostUnlike 12 rfl) ?_
  refine x_icmp_ge (tgt := 73) (by decide) (dk zX0_mostUnlike 13 rfl) (fun c1 => ?_) (fun c1 => ?_)
  · have hc1t := h.1 c1
    obtain ⟨v2, ev2⟩ : ∃ y : Int32, y = x3 + 1 := ⟨_, rfl⟩
    have hv2 := hc1t v2 ev2
    refine x_iinc (v := v2) (l' := [(0, .ref x0), (1, .ref x1), (2, .int x2), (3, .int v2), (4, .int x4)]) 3 rfl (by rw [ev2]; rfl) [1, 2, 3, 0, 4] rfl (by decide) (dk zX0_mostUnlike 41 rfl) ?_
    refine x_goto (tgt := 4) (by decide) (dk zX0_mostUnlike 42 rfl) ?_
    exact x_sub [0, 1, 2, 3] rfl hv2
  · have hc1f := h.2 c1
    refine x_aload_n 0 rfl rfl (dk zX0_mostUnlike 14 rfl) ?_
    refine gf0_0 (r := x0 + 1) rfl hk_x0 (sD0 _ hk_x0) (dk zX0_mostUnlike 15 rfl) ?_
    refine x_iload_n 3 rfl rfl (dk zX0_mostUnlike 16 rfl) ?_
    have b3 := hc1f.1
    have hb3 := hc1f.2
    refine y_aaldI (b := x0 + 2 + x3.toNatClampNeg) (sD0k _ hk_x0) (sD0l _ hk_x0) b3 (by omega) (dk zX0_mostUnlike 17 rfl) ?_
    refine x_iload 4 rfl (dk zX0_mostUnlike 18 rfl) ?_
    have b4 := hb3.1
    have hb4 := hb3.2
    refine y_iald (j := x4.toNatClampNeg) (sDrk hk_x0 b3) (sDrl hk_x0 b3) b4 rfl (dk zX0_mostUnlike 19 rfl) ?_
    refine x_topi (fun v5 ev5 => ?_)
    have hv5 := hb4 v5 ev5
    refine x_istoreG (l' := [(0, .ref x0), (1, .ref x1), (2, .int x2), (3, .int x3), (4, .int x4), (5, .int v5)]) [1, 2, 3, 4, 5, 0] rfl (by decide) (dk zX0_mostUnlike 20 rfl) ?_
    refine x_aload_n 1 rfl rfl (dk zX0_mostUnlike 21 rfl) ?_
    refine x_iload_n 3 rfl rfl (dk zX0_mostUnlike 22 rfl) ?_
    refine x_iload 4 rfl (dk zX0_mostUnlike 23 rfl) ?_
    refine x_callV (as := [.int x3, .int x4]) (o := x1) (ci := 0) (st := []) rfl okRX0_39 npX0_between ⟨Nat.le_of_ble_eq_true rfl, Nat.le_of_ble_eq_true rfl⟩ hk_x1 (by decide) rfl (Nat.le_of_ble_eq_true rfl) (dk zX0_mostUnlike 24 rfl) ?_
    refine hv5.mono ?_
    rintro _ m6 ⟨r7, rfl, hm6⟩
    show Ex E MX0_mostUnlike Q 40 [(0, .ref x0), (1, .ref x1), (2, .int x2), (3, .int x3), (4, .int x4), (5, .int v5)] [.int r7] m6
    refine x_istoreG (l' := [(0, .ref x0), (1, .ref x1), (2, .int x2), (3, .int x3), (4, .int x4), (5, .int v5), (6, .int r7)]) [1, 2, 3, 4, 5, 6, 0] rfl (by decide) (dk zX0_mostUnlike 25 rfl) ?_
    refine x_iload 5 rfl (dk zX0_mostUnlike 26 rfl) ?_
    refine x_iconst (v := -1) (by decide) (dk zX0_mostUnlike 27 rfl) ?_
    refine x_icmp_eq (tgt := 67) (by decide) (dk zX0_mostUnlike 28 rfl) (fun c8 => ?_) (fun c8 => ?_)
    · have hc8t := hm6.1 c8
      obtain ⟨v9, ev9⟩ : ∃ y : Int32, y = x4 + 1 := ⟨_, rfl⟩
      have hv9 := hc8t v9 ev9
      refine x_iinc (v := v9) (l' := [(0, .ref x0), (1, .ref x1), (2, .int x2), (3, .int x3), (4, .int v9), (5, .int v5), (6, .int r7)]) 4 rfl (by rw [ev9]; rfl) [1, 2, 3, 4, 0, 5, 6] rfl (by decide) (dk zX0_mostUnlike 39 rfl) ?_
      refine x_goto (tgt := 15) (by decide) (dk zX0_mostUnlike 40 rfl) ?_
      exact x_sub [0, 1, 2, 3, 4] rfl hv9
    · have hc8f := hm6.2 c8
      refine x_iload 6 rfl (dk zX0_mostUnlike 29 rfl) ?_
      refine x_iconst (v := -1) (by decide) (dk zX0_mostUnlike 30 rfl) ?_
      refine x_icmp_eq (tgt := 67) (by decide) (dk zX0_mostUnlike 31 rfl) (fun c10 => ?_) (fun c10 => ?_)
      · have hc10t := hc8f.1 c10
        obtain ⟨v11, ev11⟩ : ∃ y : Int32, y = x4 + 1 := ⟨_, rfl⟩
        have hv11 := hc10t v11 ev11
        refine x_iinc (v := v11) (l' := [(0, .ref x0), (1, .ref x1), (2, .int x2), (3, .int x3), (4, .int v11), (5, .int v5), (6, .int r7)]) 4 rfl (by rw [ev11]; rfl) [1, 2, 3, 4, 0, 5, 6] rfl (by decide) (dk zX0_mostUnlike 39 rfl) ?_
        refine x_goto (tgt := 15) (by decide) (dk zX0_mostUnlike 40 rfl) ?_
        exact x_sub [0, 1, 2, 3, 4] rfl hv11
      · have hc10f := hc8f.2 c10
        refine x_iload_n 2 rfl rfl (dk zX0_mostUnlike 32 rfl) ?_
        refine x_iload 5 rfl (dk zX0_mostUnlike 33 rfl) ?_
        refine x_iload 6 rfl (dk zX0_mostUnlike 34 rfl) ?_
        refine x_isub (dk zX0_mostUnlike 35 rfl) ?_
        refine x_mabs rfl wmRX0_43 wmabs_s wmi wmabs_c (Nat.le_of_ble_eq_true rfl) (Nat.le_of_ble_eq_true rfl) (dk zX0_mostUnlike 36 rfl) ?_
        refine x_mmax rfl wmRX0_49 wmmax_s wmi wmmax_c (Nat.le_of_ble_eq_true rfl) (Nat.le_of_ble_eq_true rfl) (dk zX0_mostUnlike 37 rfl) ?_
        refine x_topi (fun v12 ev12 => ?_)
        have hv12 := hc10f v12 ev12
        refine x_istore_n (k := 2) (l' := [(0, .ref x0), (1, .ref x1), (2, .int v12), (3, .int x3), (4, .int x4), (5, .int v5), (6, .int r7)]) [1, 2, 0, 3, 4, 5, 6] rfl rfl (by decide) (dk zX0_mostUnlike 38 rfl) ?_
        obtain ⟨v13, ev13⟩ : ∃ y : Int32, y = x4 + 1 := ⟨_, rfl⟩
        have hv13 := hv12 v13 ev13
        refine x_iinc (v := v13) (l' := [(0, .ref x0), (1, .ref x1), (2, .int v12), (3, .int x3), (4, .int v13), (5, .int v5), (6, .int r7)]) 4 rfl (by rw [ev13]; rfl) [1, 2, 3, 4, 0, 5, 6] rfl (by decide) (dk zX0_mostUnlike 39 rfl) ?_
        refine x_goto (tgt := 15) (by decide) (dk zX0_mostUnlike 40 rfl) ?_
        exact x_sub [0, 1, 2, 3, 4] rfl hv13
set_option maxRecDepth 20000 in
set_option maxHeartbeats 2000000 in
theorem gX1_setOut_0 {E : EV} {Q : Po} {μ : Mem} {x1 : Int32} (h : Sp E MX3_openLanes [.ref 1] μ (fun v m1 => ∃ r2 : Int32, v = some (.int r2) ∧ Sp E MX0_measure [.ref 28, .ref 1, .int r2] m1 (fun v m3 => v = none ∧ Ex E MX1_setOut Q 20 [(0, .ref 27), (1, .int x1), (2, .int 0)] [] m3))) : Ex E MX1_setOut Q 0 [(0, .ref 27), (1, .int x1)] [] μ := by
  refine x_aload_n 0 rfl rfl (dk zX1_setOut 0 rfl) ?_
  refine gf1_1 (r := 28) rfl k27 r27_1 (dk zX1_setOut 1 rfl) ?_
  refine x_aload_n 0 rfl rfl (dk zX1_setOut 2 rfl) ?_
  refine gf1_0 (r := 1) rfl k27 r27_0 (dk zX1_setOut 3 rfl) ?_
  refine x_aload_n 0 rfl rfl (dk zX1_setOut 4 rfl) ?_
  refine gf1_0 (r := 1) rfl k27 r27_0 (dk zX1_setOut 5 rfl) ?_
  refine x_callV (as := []) (o := 1) (ci := 3) (st := [.ref 1, .ref 28]) rfl okRX1_46 npX3_openLanes ⟨Nat.le_of_ble_eq_true rfl, Nat.le_of_ble_eq_true rfl⟩ k1 (by decide) rfl (Nat.le_of_ble_eq_true rfl) (dk zX1_setOut 6 rfl) ?_
  refine h.mono ?_
  rintro _ m1 ⟨r2, rfl, hm1⟩
  show Ex E MX1_setOut Q 15 [(0, .ref 27), (1, .int x1)] [.int r2, .ref 1, .ref 28] m1
  refine x_callV (as := [.ref 1, .int r2]) (o := 28) (ci := 0) (st := []) rfl okRX1_49 npX0_measure ⟨Nat.le_of_ble_eq_true rfl, Nat.le_of_ble_eq_true rfl⟩ k28 (by decide) rfl (Nat.le_of_ble_eq_true rfl) (dk zX1_setOut 7 rfl) ?_
  refine hm1.mono ?_
  rintro _ m3 ⟨rfl, hm3⟩
  show Ex E MX1_setOut Q 18 [(0, .ref 27), (1, .int x1)] [] m3
  refine x_iconst (v := 0) (by decide) (dk zX1_setOut 8 rfl) ?_
  refine x_istore_n (k := 2) (l' := [(0, .ref 27), (1, .int x1), (2, .int 0)]) [1, 2, 0] rfl rfl (by decide) (dk zX1_setOut 9 rfl) ?_
  exact hm3
set_option maxRecDepth 20000 in
set_option maxHeartbeats 2000000 in
theorem gX1_setOut_20 {E : EV} {Q : Po} {μ : Mem} {x1 : Int32} {x2 : Int32} (h : ((8 ≤ x2 → Q none μ) ∧ (¬ 8 ≤ x2 → Sp E MX0_between [.ref 28, .int x1, .int x2] μ (fun v m2 => ∃ r3 : Int32, v = some (.int r3) ∧ ((¬ r3 = ((-1)) → vp_in x2 8 ∧ (∀ v6 : Int32, v6 = x2 + 1 → Ex E MX1_setOut Q 20 [(0, .ref 27), (1, .int x1), (2, .int v6)] [] (mI m2 40 x2.toNatClampNeg r3))) ∧ (r3 = ((-1)) → vp_in x2 8 ∧ (∀ v8 : Int32, v8 = x2 + 1 → Ex E MX1_setOut Q 20 [(0, .ref 27), (1, .int x1), (2, .int v8)] [] (mI m2 40 x2.toNatClampNeg 1000)))))))) : Ex E MX1_setOut Q 20 [(0, .ref 27), (1, .int x1), (2, .int x2)] [] μ := by
  refine x_iload_n 2 rfl rfl (dk zX1_setOut 10 rfl) ?_
  refine x_bipush (v := 8) (by decide) (dk zX1_setOut 11 rfl) ?_
  refine x_icmp_ge (tgt := 60) (by decide) (dk zX1_setOut 12 rfl) (fun c1 => ?_) (fun c1 => ?_)
  · have hc1t := h.1 c1
    exact x_vret rfl (dk zX1_setOut 31 rfl) hc1t
  · have hc1f := h.2 c1
    refine x_aload_n 0 rfl rfl (dk zX1_setOut 13 rfl) ?_
    refine gf1_1 (r := 28) rfl k27 r27_1 (dk zX1_setOut 14 rfl) ?_
    refine x_iload_n 1 rfl rfl (dk zX1_setOut 15 rfl) ?_
    refine x_iload_n 2 rfl rfl (dk zX1_setOut 16 rfl) ?_
    refine x_callV (as := [.int x1, .int x2]) (o := 28) (ci := 0) (st := []) rfl okRX1_53 npX0_between ⟨Nat.le_of_ble_eq_true rfl, Nat.le_of_ble_eq_true rfl⟩ k28 (by decide) rfl (Nat.le_of_ble_eq_true rfl) (dk zX1_setOut 17 rfl) ?_
    refine hc1f.mono ?_
    rintro _ m2 ⟨r3, rfl, hm2⟩
    show Ex E MX1_setOut Q 35 [(0, .ref 27), (1, .int x1), (2, .int x2)] [.int r3] m2
    refine x_istore_n (k := 3) (l' := [(0, .ref 27), (1, .int x1), (2, .int x2), (3, .int r3)]) [1, 2, 3, 0] rfl rfl (by decide) (dk zX1_setOut 18 rfl) ?_
    refine x_aload_n 0 rfl rfl (dk zX1_setOut 19 rfl) ?_
    refine gf1_2 (r := 40) rfl k27 r27_2 (dk zX1_setOut 20 rfl) ?_
    refine x_iload_n 2 rfl rfl (dk zX1_setOut 21 rfl) ?_
    refine x_iload_n 3 rfl rfl (dk zX1_setOut 22 rfl) ?_
    refine x_iconst (v := -1) (by decide) (dk zX1_setOut 23 rfl) ?_
    refine x_icmp_ne (tgt := 52) (by decide) (dk zX1_setOut 24 rfl) (fun c4 => ?_) (fun c4 => ?_)
    · have hc4t := hm2.1 c4
      refine x_iload_n 3 rfl rfl (dk zX1_setOut 27 rfl) ?_
      have b5 := hc4t.1
      have hb5 := hc4t.2
      refine y_iast (j := x2.toNatClampNeg) k40 l40 b5 rfl (dk zX1_setOut 28 rfl) ?_
      obtain ⟨v6, ev6⟩ : ∃ y : Int32, y = x2 + 1 := ⟨_, rfl⟩
      have hv6 := hb5 v6 ev6
      refine x_iinc (v := v6) (l' := [(0, .ref 27), (1, .int x1), (2, .int v6), (3, .int r3)]) 2 rfl (by rw [ev6]; rfl) [1, 2, 0, 3] rfl (by decide) (dk zX1_setOut 29 rfl) ?_
      refine x_goto (tgt := 20) (by decide) (dk zX1_setOut 30 rfl) ?_
      exact x_sub [0, 1, 2] rfl hv6
    · have hc4f := hm2.2 c4
      refine x_sipush (v := 1000) (by decide) (dk zX1_setOut 25 rfl) ?_
      refine x_goto (tgt := 53) (by decide) (dk zX1_setOut 26 rfl) ?_
      have b7 := hc4f.1
      have hb7 := hc4f.2
      refine y_iast (j := x2.toNatClampNeg) k40 l40 b7 rfl (dk zX1_setOut 28 rfl) ?_
      obtain ⟨v8, ev8⟩ : ∃ y : Int32, y = x2 + 1 := ⟨_, rfl⟩
      have hv8 := hb7 v8 ev8
      refine x_iinc (v := v8) (l' := [(0, .ref 27), (1, .int x1), (2, .int v8), (3, .int r3)]) 2 rfl (by rw [ev8]; rfl) [1, 2, 0, 3] rfl (by decide) (dk zX1_setOut 29 rfl) ?_
      refine x_goto (tgt := 20) (by decide) (dk zX1_setOut 30 rfl) ?_
      exact x_sub [0, 1, 2] rfl hv8
set_option maxRecDepth 20000 in
set_option maxHeartbeats 2000000 in
theorem gX1_reached_0 {E : EV} {Q : Po} {μ : Mem}  (h : Ex E MX1_reached Q 4 [(0, .ref 27), (1, .int 0), (2, .int 0)] [] μ) : Ex E MX1_reached Q 0 [(0, .ref 27)] [] μ := by
  refine x_iconst (v := 0) (by decide) (dk zX1_reached 0 rfl) ?_
  refine x_istore_n (k := 1) (l' := [(0, .ref 27), (1, .int 0)]) [1, 0] rfl rfl (by decide) (dk zX1_reached 1 rfl) ?_
  refine x_iconst (v := 0) (by decide) (dk zX1_reached 2 rfl) ?_
  refine x_istore_n (k := 2) (l' := [(0, .ref 27), (1, .int 0), (2, .int 0)]) [1, 2, 0] rfl rfl (by decide) (dk zX1_reached 3 rfl) ?_
  exact h
set_option maxRecDepth 20000 in
set_option maxHeartbeats 2000000 in
theorem gX1_reached_4 {E : EV} {Q : Po} {μ : Mem} {x1 : Int32} {x2 : Int32} (h : ((8 ≤ x2 → Q (some (.int x1)) μ) ∧ (¬ 8 ≤ x2 → vp_in x2 8 ∧ (((1000 ≤ (μ.1 40 x2.toNatClampNeg) → ∀ v4 : Int32, v4 = x2 + 1 → Ex E MX1_reached Q 4 [(0, .ref 27), (1, .int x1), (2, .int v4)] [] μ) ∧ (¬ 1000 ≤ (μ.1 40 x2.toNatClampNeg) → ∀ v5 : Int32, v5 = x1 ||| (1 <<< ((x2 : Int32) &&& 31)) → ∀ v6 : Int32, v6 = x2 + 1 → Ex E MX1_reached Q 4 [(0, .ref 27), (1, .int v5), (2, .int v6)] [] μ)))))) : Ex E MX1_reached Q 4 [(0, .ref 27), (1, .int x1), (2, .int x2)] [] μ := by
  refine x_iload_n 2 rfl rfl (dk zX1_reached 4 rfl) ?_
  refine x_bipush (v := 8) (by decide) (dk zX1_reached 5 rfl) ?_
  refine x_icmp_ge (tgt := 34) (by decide) (dk zX1_reached 6 rfl) (fun c1 => ?_) (fun c1 => ?_)
  · have hc1t := h.1 c1
    refine x_iload_n 1 rfl rfl (dk zX1_reached 21 rfl) ?_
    exact x_iret (ty := .int) rfl rfl (dk zX1_reached 22 rfl) hc1t
  · have hc1f := h.2 c1
    refine x_aload_n 0 rfl rfl (dk zX1_reached 7 rfl) ?_
    refine gf1_2 (r := 40) rfl k27 r27_2 (dk zX1_reached 8 rfl) ?_
    refine x_iload_n 2 rfl rfl (dk zX1_reached 9 rfl) ?_
    have b2 := hc1f.1
    have hb2 := hc1f.2
    refine y_iald (j := x2.toNatClampNeg) k40 l40 b2 rfl (dk zX1_reached 10 rfl) ?_
    refine x_sipush (v := 1000) (by decide) (dk zX1_reached 11 rfl) ?_
    refine x_icmp_ge (tgt := 28) (by decide) (dk zX1_reached 12 rfl) (fun c3 => ?_) (fun c3 => ?_)
    · have hc3t := hb2.1 c3
      obtain ⟨v4, ev4⟩ : ∃ y : Int32, y = x2 + 1 := ⟨_, rfl⟩
      have hv4 := hc3t v4 ev4
      refine x_iinc (v := v4) (l' := [(0, .ref 27), (1, .int x1), (2, .int v4)]) 2 rfl (by rw [ev4]; rfl) [1, 2, 0] rfl (by decide) (dk zX1_reached 19 rfl) ?_
      refine x_goto (tgt := 4) (by decide) (dk zX1_reached 20 rfl) ?_
      exact hv4
    · have hc3f := hb2.2 c3
      refine x_iload_n 1 rfl rfl (dk zX1_reached 13 rfl) ?_
      refine x_iconst (v := 1) (by decide) (dk zX1_reached 14 rfl) ?_
      refine x_iload_n 2 rfl rfl (dk zX1_reached 15 rfl) ?_
      refine x_ishl (dk zX1_reached 16 rfl) ?_
      refine x_ior (dk zX1_reached 17 rfl) ?_
      refine x_topi (fun v5 ev5 => ?_)
      have hv5 := hc3f v5 ev5
      refine x_istore_n (k := 1) (l' := [(0, .ref 27), (1, .int v5), (2, .int x2)]) [1, 0, 2] rfl rfl (by decide) (dk zX1_reached 18 rfl) ?_
      obtain ⟨v6, ev6⟩ : ∃ y : Int32, y = x2 + 1 := ⟨_, rfl⟩
      have hv6 := hv5 v6 ev6
      refine x_iinc (v := v6) (l' := [(0, .ref 27), (1, .int v5), (2, .int v6)]) 2 rfl (by rw [ev6]; rfl) [1, 2, 0] rfl (by decide) (dk zX1_reached 19 rfl) ?_
      refine x_goto (tgt := 4) (by decide) (dk zX1_reached 20 rfl) ?_
      exact hv6
set_option maxRecDepth 20000 in
set_option maxHeartbeats 2000000 in
theorem gX1_comeNearer_0 {E : EV} {Q : Po} {μ : Mem} {x1 : Int32} {x2 : Int32} (h : vp_in x1 8 ∧ (((x2 < (μ.1 40 x1.toNatClampNeg) → Ex E MX1_comeNearer Q 14 [(0, .ref 27), (1, .int x1), (2, .int x2), (3, .int 0)] [] μ) ∧ (¬ x2 < (μ.1 40 x1.toNatClampNeg) → Q (some (.int 0)) μ)))) : Ex E MX1_comeNearer Q 0 [(0, .ref 27), (1, .int x1), (2, .int x2)] [] μ := by
  refine x_iload_n 2 rfl rfl (dk zX1_comeNearer 0 rfl) ?_
  refine x_aload_n 0 rfl rfl (dk zX1_comeNearer 1 rfl) ?_
  refine gf1_2 (r := 40) rfl k27 r27_2 (dk zX1_comeNearer 2 rfl) ?_
  refine x_iload_n 1 rfl rfl (dk zX1_comeNearer 3 rfl) ?_
  have b1 := h.1
  have hb1 := h.2
  refine y_iald (j := x1.toNatClampNeg) k40 l40 b1 rfl (dk zX1_comeNearer 4 rfl) ?_
  refine x_icmp_lt (tgt := 12) (by decide) (dk zX1_comeNearer 5 rfl) (fun c2 => ?_) (fun c2 => ?_)
  · have hc2t := hb1.1 c2
    refine x_iconst (v := 0) (by decide) (dk zX1_comeNearer 8 rfl) ?_
    refine x_istore_n (k := 3) (l' := [(0, .ref 27), (1, .int x1), (2, .int x2), (3, .int 0)]) [1, 2, 3, 0] rfl rfl (by decide) (dk zX1_comeNearer 9 rfl) ?_
    exact hc2t
  · have hc2f := hb1.2 c2
    refine x_iconst (v := 0) (by decide) (dk zX1_comeNearer 6 rfl) ?_
    exact x_iret rfl rfl (dk zX1_comeNearer 7 rfl) hc2f
set_option maxRecDepth 20000 in
set_option maxHeartbeats 2000000 in
theorem gX1_comeNearer_14 {E : EV} {Q : Po} {μ : Mem} {x1 : Int32} {x2 : Int32} {x3 : Int32} (h : ((8 ≤ x3 → Q (some (.int 1)) μ) ∧ (¬ 8 ≤ x3 → Sp E MX0_between [.ref 28, .int x1, .int x3] μ (fun v m2 => ∃ r3 : Int32, v = some (.int r3) ∧ ((r3 = ((-1)) → ∀ v5 : Int32, v5 = x3 + 1 → Ex E MX1_comeNearer Q 14 [(0, .ref 27), (1, .int x1), (2, .int x2), (3, .int v5)] [] m2) ∧ (¬ r3 = ((-1)) → vp_in x3 8 ∧ (∀ v7 : Int32, v7 = (if (x2 + r3) < (m2.1 40 x3.toNatClampNeg) then (x2 + r3) else (m2.1 40 x3.toNatClampNeg)) → ∀ v8 : Int32, v8 = x3 + 1 → Ex E MX1_comeNearer Q 14 [(0, .ref 27), (1, .int x1), (2, .int x2), (3, .int v8)] [] (mI m2 40 x3.toNatClampNeg v7)))))))) : Ex E MX1_comeNearer Q 14 [(0, .ref 27), (1, .int x1), (2, .int x2), (3, .int x3)] [] μ := by
  refine x_iload_n 3 rfl rfl (dk zX1_comeNearer 10 rfl) ?_
  refine x_bipush (v := 8) (by decide) (dk zX1_comeNearer 11 rfl) ?_
  refine x_icmp_ge (tgt := 62) (by decide) (dk zX1_comeNearer 12 rfl) (fun c1 => ?_) (fun c1 => ?_)
  · have hc1t := h.1 c1
    refine x_iconst (v := 1) (by decide) (dk zX1_comeNearer 36 rfl) ?_
    exact x_iret rfl rfl (dk zX1_comeNearer 37 rfl) hc1t
  · have hc1f := h.2 c1
    refine x_aload_n 0 rfl rfl (dk zX1_comeNearer 13 rfl) ?_
    refine gf1_1 (r := 28) rfl k27 r27_1 (dk zX1_comeNearer 14 rfl) ?_
    refine x_iload_n 1 rfl rfl (dk zX1_comeNearer 15 rfl) ?_
    refine x_iload_n 3 rfl rfl (dk zX1_comeNearer 16 rfl) ?_
    refine x_callV (as := [.int x1, .int x3]) (o := 28) (ci := 0) (st := []) rfl okRX1_53 npX0_between ⟨Nat.le_of_ble_eq_true rfl, Nat.le_of_ble_eq_true rfl⟩ k28 (by decide) rfl (Nat.le_of_ble_eq_true rfl) (dk zX1_comeNearer 17 rfl) ?_
    refine hc1f.mono ?_
    rintro _ m2 ⟨r3, rfl, hm2⟩
    show Ex E MX1_comeNearer Q 29 [(0, .ref 27), (1, .int x1), (2, .int x2), (3, .int x3)] [.int r3] m2
    refine x_istoreG (l' := [(0, .ref 27), (1, .int x1), (2, .int x2), (3, .int x3), (4, .int r3)]) [1, 2, 3, 4, 0] rfl (by decide) (dk zX1_comeNearer 18 rfl) ?_
    refine x_iload 4 rfl (dk zX1_comeNearer 19 rfl) ?_
    refine x_iconst (v := -1) (by decide) (dk zX1_comeNearer 20 rfl) ?_
    refine x_icmp_eq (tgt := 56) (by decide) (dk zX1_comeNearer 21 rfl) (fun c4 => ?_) (fun c4 => ?_)
    · have hc4t := hm2.1 c4
      obtain ⟨v5, ev5⟩ : ∃ y : Int32, y = x3 + 1 := ⟨_, rfl⟩
      have hv5 := hc4t v5 ev5
      refine x_iinc (v := v5) (l' := [(0, .ref 27), (1, .int x1), (2, .int x2), (3, .int v5), (4, .int r3)]) 3 rfl (by rw [ev5]; rfl) [1, 2, 3, 0, 4] rfl (by decide) (dk zX1_comeNearer 34 rfl) ?_
      refine x_goto (tgt := 14) (by decide) (dk zX1_comeNearer 35 rfl) ?_
      exact x_sub [0, 1, 2, 3] rfl hv5
    · have hc4f := hm2.2 c4
      refine x_aload_n 0 rfl rfl (dk zX1_comeNearer 22 rfl) ?_
      refine gf1_2 (r := 40) rfl k27 r27_2 (dk zX1_comeNearer 23 rfl) ?_
      refine x_iload_n 3 rfl rfl (dk zX1_comeNearer 24 rfl) ?_
      refine x_aload_n 0 rfl rfl (dk zX1_comeNearer 25 rfl) ?_
      refine gf1_2 (r := 40) rfl k27 r27_2 (dk zX1_comeNearer 26 rfl) ?_
      refine x_iload_n 3 rfl rfl (dk zX1_comeNearer 27 rfl) ?_
      have b6 := hc4f.1
      have hb6 := hc4f.2
      refine y_iald (j := x3.toNatClampNeg) k40 l40 b6 rfl (dk zX1_comeNearer 28 rfl) ?_
      refine x_iload_n 2 rfl rfl (dk zX1_comeNearer 29 rfl) ?_
      refine x_iload 4 rfl (dk zX1_comeNearer 30 rfl) ?_
      refine x_iadd (dk zX1_comeNearer 31 rfl) ?_
      refine x_mmin rfl wmRX1_84 wmmin_s wmi wmmin_c (Nat.le_of_ble_eq_true rfl) (Nat.le_of_ble_eq_true rfl) (dk zX1_comeNearer 32 rfl) ?_
      refine x_topi (fun v7 ev7 => ?_)
      have hv7 := hb6 v7 ev7
      refine y_iast (j := x3.toNatClampNeg) k40 l40 b6 rfl (dk zX1_comeNearer 33 rfl) ?_
      obtain ⟨v8, ev8⟩ : ∃ y : Int32, y = x3 + 1 := ⟨_, rfl⟩
      have hv8 := hv7 v8 ev8
      refine x_iinc (v := v8) (l' := [(0, .ref 27), (1, .int x1), (2, .int x2), (3, .int v8), (4, .int r3)]) 3 rfl (by rw [ev8]; rfl) [1, 2, 3, 0, 4] rfl (by decide) (dk zX1_comeNearer 34 rfl) ?_
      refine x_goto (tgt := 14) (by decide) (dk zX1_comeNearer 35 rfl) ?_
      exact x_sub [0, 1, 2, 3] rfl hv8
set_option maxRecDepth 20000 in
set_option maxHeartbeats 2000000 in
theorem gX1_allowOneMore_0 {E : EV} {Q : Po} {μ : Mem}  (h : Ex E MX1_allowOneMore Q 19 [(0, .ref 27), (1, .int 0), (2, .int 0)] [] (mCI μ 40 0 41 0 8)) : Ex E MX1_allowOneMore Q 0 [(0, .ref 27)] [] μ := by
  refine x_aload_n 0 rfl rfl (dk zX1_allowOneMore 0 rfl) ?_
  refine gf1_2 (r := 40) rfl k27 r27_2 (dk zX1_allowOneMore 1 rfl) ?_
  refine x_iconst (v := 0) (by decide) (dk zX1_allowOneMore 2 rfl) ?_
  refine x_aload_n 0 rfl rfl (dk zX1_allowOneMore 3 rfl) ?_
  refine gf1_3 (r := 41) rfl k27 r27_3 (dk zX1_allowOneMore 4 rfl) ?_
  refine x_iconst (v := 0) (by decide) (dk zX1_allowOneMore 5 rfl) ?_
  refine x_bipush (v := 8) (by decide) (dk zX1_allowOneMore 6 rfl) ?_
  refine x_copyI (sp := 0) (dp := 0) (n := 8) rfl wlRX1_57 wnat wsac wiac k40 k41 (by decide) (by decide) (by decide) (by rw [l40]; decide) (by rw [l41]; decide) (by decide) (by decide) (dk zX1_allowOneMore 7 rfl) ?_
  show Ex E MX1_allowOneMore Q 15 [(0, .ref 27)] [] (mCI μ 40 0 41 0 8)
  refine x_iconst (v := 0) (by decide) (dk zX1_allowOneMore 8 rfl) ?_
  refine x_istore_n (k := 1) (l' := [(0, .ref 27), (1, .int 0)]) [1, 0] rfl rfl (by decide) (dk zX1_allowOneMore 9 rfl) ?_
  refine x_iconst (v := 0) (by decide) (dk zX1_allowOneMore 10 rfl) ?_
  refine x_istore_n (k := 2) (l' := [(0, .ref 27), (1, .int 0), (2, .int 0)]) [1, 2, 0] rfl rfl (by decide) (dk zX1_allowOneMore 11 rfl) ?_
  exact h
set_option maxRecDepth 20000 in
set_option maxHeartbeats 2000000 in
theorem gX1_allowOneMore_19 {E : EV} {Q : Po} {μ : Mem} {x1 : Int32} {x2 : Int32} (h : Sp E MX3_letters [.ref 1] μ (fun v m1 => ∃ r2 : Int32, v = some (.int r2) ∧ ((r2 ≤ x2 → ((x1 = 0 ∨ x1 = 1) ∧ Q (some (.int x1)) m1)) ∧ (¬ r2 ≤ x2 → Sp E MX3_isOpen [.ref 1, .int x2] m1 (fun v m4 => ∃ r5 : Int32, v = some (.int r5) ∧ ((r5 = 0 → ∀ v7 : Int32, v7 = x2 + 1 → Ex E MX1_allowOneMore Q 19 [(0, .ref 27), (1, .int x1), (2, .int v7)] [] m4) ∧ (¬ r5 = 0 → Sp E MX3_isWatched [.ref 1, .int x2] m4 (fun v m8 => ∃ r9 : Int32, v = some (.int r9) ∧ ((r9 = 0 → ∀ v11 : Int32, v11 = x2 + 1 → Ex E MX1_allowOneMore Q 19 [(0, .ref 27), (1, .int x1), (2, .int v11)] [] m8) ∧ (¬ r9 = 0 → Sp E MX3_to [.ref 1, .int x2] m8 (fun v m12 => ∃ r13 : Int32, v = some (.int r13) ∧ Sp E MX3_from [.ref 1, .int x2] m12 (fun v m14 => ∃ r15 : Int32, v = some (.int r15) ∧ vp_in r15 8 ∧ (Sp E MX1_comeNearer [.ref 27, .int r13, .int ((m14.1 41 r15.toNatClampNeg) + 1)] m14 (fun v m17 => ∃ r18 : Int32, v = some (.int r18) ∧ ∀ v19 : Int32, v19 = x1 ||| r18 → ∀ v20 : Int32, v20 = x2 + 1 → Ex E MX1_allowOneMore Q 19 [(0, .ref 27), (1, .int v19), (2, .int v20)] [] m17)))))))))))))) : Ex E MX1_allowOneMore Q 19 [(0, .ref 27), (1, .int x1), (2, .int x2)] [] μ := by
  refine x_iload_n 2 rfl rfl (dk zX1_allowOneMore 12 rfl) ?_
  refine x_aload_n 0 rfl rfl (dk zX1_allowOneMore 13 rfl) ?_
  refine gf1_0 (r := 1) rfl k27 r27_0 (dk zX1_allowOneMore 14 rfl) ?_
  refine x_callV (as := []) (o := 1) (ci := 3) (st := [.int x2]) rfl okRX1_63 npX3_letters ⟨Nat.le_of_ble_eq_true rfl, Nat.le_of_ble_eq_true rfl⟩ k1 (by decide) rfl (Nat.le_of_ble_eq_true rfl) (dk zX1_allowOneMore 15 rfl) ?_
  refine h.mono ?_
  rintro _ m1 ⟨r2, rfl, hm1⟩
  show Ex E MX1_allowOneMore Q 27 [(0, .ref 27), (1, .int x1), (2, .int x2)] [.int r2, .int x2] m1
  refine x_icmp_ge (tgt := 90) (by decide) (dk zX1_allowOneMore 16 rfl) (fun c3 => ?_) (fun c3 => ?_)
  · have hc3t := hm1.1 c3
    refine x_iload_n 1 rfl rfl (dk zX1_allowOneMore 49 rfl) ?_
    exact x_iret rfl (nar_b hc3t.1) (dk zX1_allowOneMore 50 rfl) hc3t.2
  · have hc3f := hm1.2 c3
    refine x_aload_n 0 rfl rfl (dk zX1_allowOneMore 17 rfl) ?_
    refine gf1_0 (r := 1) rfl k27 r27_0 (dk zX1_allowOneMore 18 rfl) ?_
    refine x_iload_n 2 rfl rfl (dk zX1_allowOneMore 19 rfl) ?_
    refine x_callV (as := [.int x2]) (o := 1) (ci := 3) (st := []) rfl okRX1_66 npX3_isOpen ⟨Nat.le_of_ble_eq_true rfl, Nat.le_of_ble_eq_true rfl⟩ k1 (by decide) rfl (Nat.le_of_ble_eq_true rfl) (dk zX1_allowOneMore 20 rfl) ?_
    refine hc3f.mono ?_
    rintro _ m4 ⟨r5, rfl, hm4⟩
    show Ex E MX1_allowOneMore Q 38 [(0, .ref 27), (1, .int x1), (2, .int x2)] [.int r5] m4
    refine x_if_eq (tgt := 84) (by decide) (dk zX1_allowOneMore 21 rfl) (fun c6 => ?_) (fun c6 => ?_)
    · have hc6t := hm4.1 c6
      obtain ⟨v7, ev7⟩ : ∃ y : Int32, y = x2 + 1 := ⟨_, rfl⟩
      have hv7 := hc6t v7 ev7
      refine x_iinc (v := v7) (l' := [(0, .ref 27), (1, .int x1), (2, .int v7)]) 2 rfl (by rw [ev7]; rfl) [1, 2, 0] rfl (by decide) (dk zX1_allowOneMore 47 rfl) ?_
      refine x_goto (tgt := 19) (by decide) (dk zX1_allowOneMore 48 rfl) ?_
      exact hv7
    · have hc6f := hm4.2 c6
      refine x_aload_n 0 rfl rfl (dk zX1_allowOneMore 22 rfl) ?_
      refine gf1_0 (r := 1) rfl k27 r27_0 (dk zX1_allowOneMore 23 rfl) ?_
      refine x_iload_n 2 rfl rfl (dk zX1_allowOneMore 24 rfl) ?_
      refine x_callV (as := [.int x2]) (o := 1) (ci := 3) (st := []) rfl okRX1_70 npX3_isWatched ⟨Nat.le_of_ble_eq_true rfl, Nat.le_of_ble_eq_true rfl⟩ k1 (by decide) rfl (Nat.le_of_ble_eq_true rfl) (dk zX1_allowOneMore 25 rfl) ?_
      refine hc6f.mono ?_
      rintro _ m8 ⟨r9, rfl, hm8⟩
      show Ex E MX1_allowOneMore Q 49 [(0, .ref 27), (1, .int x1), (2, .int x2)] [.int r9] m8
      refine x_if_eq (tgt := 84) (by decide) (dk zX1_allowOneMore 26 rfl) (fun c10 => ?_) (fun c10 => ?_)
      · have hc10t := hm8.1 c10
        obtain ⟨v11, ev11⟩ : ∃ y : Int32, y = x2 + 1 := ⟨_, rfl⟩
        have hv11 := hc10t v11 ev11
        refine x_iinc (v := v11) (l' := [(0, .ref 27), (1, .int x1), (2, .int v11)]) 2 rfl (by rw [ev11]; rfl) [1, 2, 0] rfl (by decide) (dk zX1_allowOneMore 47 rfl) ?_
        refine x_goto (tgt := 19) (by decide) (dk zX1_allowOneMore 48 rfl) ?_
        exact hv11
      · have hc10f := hm8.2 c10
        refine x_aload_n 0 rfl rfl (dk zX1_allowOneMore 27 rfl) ?_
        refine gf1_0 (r := 1) rfl k27 r27_0 (dk zX1_allowOneMore 28 rfl) ?_
        refine x_iload_n 2 rfl rfl (dk zX1_allowOneMore 29 rfl) ?_
        refine x_callV (as := [.int x2]) (o := 1) (ci := 3) (st := []) rfl okRX1_73 npX3_to ⟨Nat.le_of_ble_eq_true rfl, Nat.le_of_ble_eq_true rfl⟩ k1 (by decide) rfl (Nat.le_of_ble_eq_true rfl) (dk zX1_allowOneMore 30 rfl) ?_
        refine hc10f.mono ?_
        rintro _ m12 ⟨r13, rfl, hm12⟩
        show Ex E MX1_allowOneMore Q 60 [(0, .ref 27), (1, .int x1), (2, .int x2)] [.int r13] m12
        refine x_istore_n (k := 3) (l' := [(0, .ref 27), (1, .int x1), (2, .int x2), (3, .int r13)]) [1, 2, 3, 0] rfl rfl (by decide) (dk zX1_allowOneMore 31 rfl) ?_
        refine x_iload_n 1 rfl rfl (dk zX1_allowOneMore 32 rfl) ?_
        refine x_aload_n 0 rfl rfl (dk zX1_allowOneMore 33 rfl) ?_
        refine x_iload_n 3 rfl rfl (dk zX1_allowOneMore 34 rfl) ?_
        refine x_aload_n 0 rfl rfl (dk zX1_allowOneMore 35 rfl) ?_
        refine gf1_3 (r := 41) rfl k27 r27_3 (dk zX1_allowOneMore 36 rfl) ?_
        refine x_aload_n 0 rfl rfl (dk zX1_allowOneMore 37 rfl) ?_
        refine gf1_0 (r := 1) rfl k27 r27_0 (dk zX1_allowOneMore 38 rfl) ?_
        refine x_iload_n 2 rfl rfl (dk zX1_allowOneMore 39 rfl) ?_
        refine x_callV (as := [.int x2]) (o := 1) (ci := 3) (st := [.ref 41, .int r13, .ref 27, .int x1]) rfl okRX1_77 npX3_from ⟨Nat.le_of_ble_eq_true rfl, Nat.le_of_ble_eq_true rfl⟩ k1 (by decide) rfl (Nat.le_of_ble_eq_true rfl) (dk zX1_allowOneMore 40 rfl) ?_
        refine hm12.mono ?_
        rintro _ m14 ⟨r15, rfl, hm14⟩
        show Ex E MX1_allowOneMore Q 76 [(0, .ref 27), (1, .int x1), (2, .int x2), (3, .int r13)] [.int r15, .ref 41, .int r13, .ref 27, .int x1] m14
        have b16 := hm14.1
        have hb16 := hm14.2
        refine y_iald (j := r15.toNatClampNeg) k41 l41 b16 rfl (dk zX1_allowOneMore 41 rfl) ?_
        refine x_iconst (v := 1) (by decide) (dk zX1_allowOneMore 42 rfl) ?_
        refine x_iadd (dk zX1_allowOneMore 43 rfl) ?_
        refine x_callV (as := [.int r13, .int ((m14.1 41 r15.toNatClampNeg) + 1)]) (o := 27) (ci := 1) (st := [.int x1]) rfl okRX1_80 npX1_comeNearer ⟨Nat.le_of_ble_eq_true rfl, Nat.le_of_ble_eq_true rfl⟩ k27 (by decide) rfl (Nat.le_of_ble_eq_true rfl) (dk zX1_allowOneMore 44 rfl) ?_
        refine hb16.mono ?_
        rintro _ m17 ⟨r18, rfl, hm17⟩
        show Ex E MX1_allowOneMore Q 82 [(0, .ref 27), (1, .int x1), (2, .int x2), (3, .int r13)] [.int r18, .int x1] m17
        refine x_ior (dk zX1_allowOneMore 45 rfl) ?_
        refine x_topi (fun v19 ev19 => ?_)
        have hv19 := hm17 v19 ev19
        refine x_istore_n (k := 1) (l' := [(0, .ref 27), (1, .int v19), (2, .int x2), (3, .int r13)]) [1, 0, 2, 3] rfl rfl (by decide) (dk zX1_allowOneMore 46 rfl) ?_
        obtain ⟨v20, ev20⟩ : ∃ y : Int32, y = x2 + 1 := ⟨_, rfl⟩
        have hv20 := hv19 v20 ev20
        refine x_iinc (v := v20) (l' := [(0, .ref 27), (1, .int v19), (2, .int v20), (3, .int r13)]) 2 rfl (by rw [ev20]; rfl) [1, 2, 0, 3] rfl (by decide) (dk zX1_allowOneMore 47 rfl) ?_
        refine x_goto (tgt := 19) (by decide) (dk zX1_allowOneMore 48 rfl) ?_
        exact x_sub [0, 1, 2] rfl hv20
set_option maxRecDepth 20000 in
set_option maxHeartbeats 2000000 in
theorem gX1_fullest_0 {E : EV} {Q : Po} {μ : Mem} {x1 : Int32} {x2 : Int32} (h : Sp E MX1_setOut [.ref 27, .int x1] μ (fun v m1 => v = none ∧ Ex E MX1_fullest Q 7 [(0, .ref 27), (1, .int x1), (2, .int x2), (3, .int 0)] [] m1)) : Ex E MX1_fullest Q 0 [(0, .ref 27), (1, .int x1), (2, .int x2)] [] μ := by
  refine x_aload_n 0 rfl rfl (dk zX1_fullest 0 rfl) ?_
  refine x_iload_n 1 rfl rfl (dk zX1_fullest 1 rfl) ?_
  refine x_callV (as := [.int x1]) (o := 27) (ci := 1) (st := []) rfl okRX1_29 npX1_setOut ⟨Nat.le_of_ble_eq_true rfl, Nat.le_of_ble_eq_true rfl⟩ k27 (by decide) rfl (Nat.le_of_ble_eq_true rfl) (dk zX1_fullest 2 rfl) ?_
  refine h.mono ?_
  rintro _ m1 ⟨rfl, hm1⟩
  show Ex E MX1_fullest Q 5 [(0, .ref 27), (1, .int x1), (2, .int x2)] [] m1
  refine x_iconst (v := 0) (by decide) (dk zX1_fullest 3 rfl) ?_
  refine x_istore_n (k := 3) (l' := [(0, .ref 27), (1, .int x1), (2, .int x2), (3, .int 0)]) [1, 2, 3, 0] rfl rfl (by decide) (dk zX1_fullest 4 rfl) ?_
  exact hm1
set_option maxRecDepth 20000 in
set_option maxHeartbeats 2000000 in
theorem gX1_fullest_7 {E : EV} {Q : Po} {μ : Mem} {x1 : Int32} {x2 : Int32} {x3 : Int32} (h : Sp E MX3_roomTold [.ref 1] μ (fun v m1 => ∃ r2 : Int32, v = some (.int r2) ∧ ((r2 < x3 → Q (some (.int ((-1)))) m1) ∧ (¬ r2 < x3 → Sp E MX1_reached [.ref 27] m1 (fun v m4 => ∃ r5 : Int32, v = some (.int r5) ∧ ((¬ (r5 &&& x2) = x2 → Sp E MX1_allowOneMore [.ref 27] m4 (fun v m7 => ∃ r8 : Int32, v = some (.int r8) ∧ ((¬ r8 = 0 → ∀ v10 : Int32, v10 = x3 + 1 → Ex E MX1_fullest Q 7 [(0, .ref 27), (1, .int x1), (2, .int x2), (3, .int v10)] [] m7) ∧ (r8 = 0 → Q (some (.int ((-1)))) m7)))) ∧ ((r5 &&& x2) = x2 → Q (some (.int x3)) m4))))))) : Ex E MX1_fullest Q 7 [(0, .ref 27), (1, .int x1), (2, .int x2), (3, .int x3)] [] μ := by
  refine x_iload_n 3 rfl rfl (dk zX1_fullest 5 rfl) ?_
  refine x_aload_n 0 rfl rfl (dk zX1_fullest 6 rfl) ?_
  refine gf1_0 (r := 1) rfl k27 r27_0 (dk zX1_fullest 7 rfl) ?_
  refine x_callV (as := []) (o := 1) (ci := 3) (st := [.int x3]) rfl okRX1_33 npX3_roomTold ⟨Nat.le_of_ble_eq_true rfl, Nat.le_of_ble_eq_true rfl⟩ k1 (by decide) rfl (Nat.le_of_ble_eq_true rfl) (dk zX1_fullest 8 rfl) ?_
  refine h.mono ?_
  rintro _ m1 ⟨r2, rfl, hm1⟩
  show Ex E MX1_fullest Q 15 [(0, .ref 27), (1, .int x1), (2, .int x2), (3, .int x3)] [.int r2, .int x3] m1
  refine x_icmp_gt (tgt := 45) (by decide) (dk zX1_fullest 9 rfl) (fun c3 => ?_) (fun c3 => ?_)
  · have hc3t := hm1.1 c3
    refine x_iconst (v := -1) (by decide) (dk zX1_fullest 25 rfl) ?_
    exact x_iret (ty := .int) rfl rfl (dk zX1_fullest 26 rfl) hc3t
  · have hc3f := hm1.2 c3
    refine x_aload_n 0 rfl rfl (dk zX1_fullest 10 rfl) ?_
    refine x_callV (as := []) (o := 27) (ci := 1) (st := []) rfl okRX1_39 npX1_reached ⟨Nat.le_of_ble_eq_true rfl, Nat.le_of_ble_eq_true rfl⟩ k27 (by decide) rfl (Nat.le_of_ble_eq_true rfl) (dk zX1_fullest 11 rfl) ?_
    refine hc3f.mono ?_
    rintro _ m4 ⟨r5, rfl, hm4⟩
    show Ex E MX1_fullest Q 22 [(0, .ref 27), (1, .int x1), (2, .int x2), (3, .int x3)] [.int r5] m4
    refine x_iload_n 2 rfl rfl (dk zX1_fullest 12 rfl) ?_
    refine x_iand (dk zX1_fullest 13 rfl) ?_
    refine x_iload_n 2 rfl rfl (dk zX1_fullest 14 rfl) ?_
    refine x_icmp_ne (tgt := 30) (by decide) (dk zX1_fullest 15 rfl) (fun c6 => ?_) (fun c6 => ?_)
    · have hc6t := hm4.1 c6
      refine x_aload_n 0 rfl rfl (dk zX1_fullest 18 rfl) ?_
      refine x_callV (as := []) (o := 27) (ci := 1) (st := []) rfl okRX1_42 npX1_allowOneMore ⟨Nat.le_of_ble_eq_true rfl, Nat.le_of_ble_eq_true rfl⟩ k27 (by decide) rfl (Nat.le_of_ble_eq_true rfl) (dk zX1_fullest 19 rfl) ?_
      refine hc6t.mono ?_
      rintro _ m7 ⟨r8, rfl, hm7⟩
      show Ex E MX1_fullest Q 34 [(0, .ref 27), (1, .int x1), (2, .int x2), (3, .int x3)] [.int r8] m7
      refine x_if_ne (tgt := 39) (by decide) (dk zX1_fullest 20 rfl) (fun c9 => ?_) (fun c9 => ?_)
      · have hc9t := hm7.1 c9
        obtain ⟨v10, ev10⟩ : ∃ y : Int32, y = x3 + 1 := ⟨_, rfl⟩
        have hv10 := hc9t v10 ev10
        refine x_iinc (v := v10) (l' := [(0, .ref 27), (1, .int x1), (2, .int x2), (3, .int v10)]) 3 rfl (by rw [ev10]; rfl) [1, 2, 3, 0] rfl (by decide) (dk zX1_fullest 23 rfl) ?_
        refine x_goto (tgt := 7) (by decide) (dk zX1_fullest 24 rfl) ?_
        exact hv10
      · have hc9f := hm7.2 c9
        refine x_iconst (v := -1) (by decide) (dk zX1_fullest 21 rfl) ?_
        exact x_iret (ty := .int) rfl rfl (dk zX1_fullest 22 rfl) hc9f
    · have hc6f := hm4.2 c6
      refine x_iload_n 3 rfl rfl (dk zX1_fullest 16 rfl) ?_
      exact x_iret (ty := .int) rfl rfl (dk zX1_fullest 17 rfl) hc6f
set_option maxRecDepth 20000 in
set_option maxHeartbeats 2000000 in
theorem gX1_homely_0 {E : EV} {Q : Po} {μ : Mem} {x1 : Int32} (h : Sp E MX1_setOut [.ref 27, .int x1] μ (fun v m1 => v = none ∧ Ex E MX1_homely Q 9 [(0, .ref 27), (1, .int x1), (2, .int 1), (3, .int 0)] [] m1)) : Ex E MX1_homely Q 0 [(0, .ref 27), (1, .int x1)] [] μ := by
  refine x_aload_n 0 rfl rfl (dk zX1_homely 0 rfl) ?_
  refine x_iload_n 1 rfl rfl (dk zX1_homely 1 rfl) ?_
  refine x_callV (as := [.int x1]) (o := 27) (ci := 1) (st := []) rfl okRX1_29 npX1_setOut ⟨Nat.le_of_ble_eq_true rfl, Nat.le_of_ble_eq_true rfl⟩ k27 (by decide) rfl (Nat.le_of_ble_eq_true rfl) (dk zX1_homely 2 rfl) ?_
  refine h.mono ?_
  rintro _ m1 ⟨rfl, hm1⟩
  show Ex E MX1_homely Q 5 [(0, .ref 27), (1, .int x1)] [] m1
  refine x_iconst (v := 1) (by decide) (dk zX1_homely 3 rfl) ?_
  refine x_istore_n (k := 2) (l' := [(0, .ref 27), (1, .int x1), (2, .int 1)]) [1, 2, 0] rfl rfl (by decide) (dk zX1_homely 4 rfl) ?_
  refine x_iconst (v := 0) (by decide) (dk zX1_homely 5 rfl) ?_
  refine x_istore_n (k := 3) (l' := [(0, .ref 27), (1, .int x1), (2, .int 1), (3, .int 0)]) [1, 2, 3, 0] rfl rfl (by decide) (dk zX1_homely 6 rfl) ?_
  exact hm1
set_option maxRecDepth 20000 in
set_option maxHeartbeats 2000000 in
theorem gX1_homely_9 {E : EV} {Q : Po} {μ : Mem} {x1 : Int32} {x2 : Int32} {x3 : Int32} (h : Sp E MX3_roomTold [.ref 1] μ (fun v m1 => ∃ r2 : Int32, v = some (.int r2) ∧ ((r2 ≤ x3 → Sp E MX1_reached [.ref 27] m1 (fun v m4 => ∃ r5 : Int32, v = some (.int r5) ∧ Q (some (.int r5)) m4)) ∧ (¬ r2 ≤ x3 → ((x2 = 0 → Sp E MX1_reached [.ref 27] m1 (fun v m7 => ∃ r8 : Int32, v = some (.int r8) ∧ Q (some (.int r8)) m7)) ∧ (¬ x2 = 0 → Sp E MX1_allowOneMore [.ref 27] m1 (fun v m9 => ∃ r10 : Int32, v = some (.int r10) ∧ ∀ v11 : Int32, v11 = x3 + 1 → Ex E MX1_homely Q 9 [(0, .ref 27), (1, .int x1), (2, .int r10), (3, .int v11)] [] m9))))))) : Ex E MX1_homely Q 9 [(0, .ref 27), (1, .int x1), (2, .int x2), (3, .int x3)] [] μ := by
  refine x_iload_n 3 rfl rfl (dk zX1_homely 7 rfl) ?_
  refine x_aload_n 0 rfl rfl (dk zX1_homely 8 rfl) ?_
  refine gf1_0 (r := 1) rfl k27 r27_0 (dk zX1_homely 9 rfl) ?_
  refine x_callV (as := []) (o := 1) (ci := 3) (st := [.int x3]) rfl okRX1_33 npX3_roomTold ⟨Nat.le_of_ble_eq_true rfl, Nat.le_of_ble_eq_true rfl⟩ k1 (by decide) rfl (Nat.le_of_ble_eq_true rfl) (dk zX1_homely 10 rfl) ?_
  refine h.mono ?_
  rintro _ m1 ⟨r2, rfl, hm1⟩
  show Ex E MX1_homely Q 17 [(0, .ref 27), (1, .int x1), (2, .int x2), (3, .int x3)] [.int r2, .int x3] m1
  refine x_icmp_ge (tgt := 35) (by decide) (dk zX1_homely 11 rfl) (fun c3 => ?_) (fun c3 => ?_)
  · have hc3t := hm1.1 c3
    refine x_aload_n 0 rfl rfl (dk zX1_homely 19 rfl) ?_
    refine x_callV (as := []) (o := 27) (ci := 1) (st := []) rfl okRX1_39 npX1_reached ⟨Nat.le_of_ble_eq_true rfl, Nat.le_of_ble_eq_true rfl⟩ k27 (by decide) rfl (Nat.le_of_ble_eq_true rfl) (dk zX1_homely 20 rfl) ?_
    refine hc3t.mono ?_
    rintro _ m4 ⟨r5, rfl, hm4⟩
    show Ex E MX1_homely Q 39 [(0, .ref 27), (1, .int x1), (2, .int x2), (3, .int x3)] [.int r5] m4
    exact x_iret (ty := .int) rfl rfl (dk zX1_homely 21 rfl) hm4
  · have hc3f := hm1.2 c3
    refine x_iload_n 2 rfl rfl (dk zX1_homely 12 rfl) ?_
    refine x_if_eq (tgt := 35) (by decide) (dk zX1_homely 13 rfl) (fun c6 => ?_) (fun c6 => ?_)
    · have hc6t := hc3f.1 c6
      refine x_aload_n 0 rfl rfl (dk zX1_homely 19 rfl) ?_
      refine x_callV (as := []) (o := 27) (ci := 1) (st := []) rfl okRX1_39 npX1_reached ⟨Nat.le_of_ble_eq_true rfl, Nat.le_of_ble_eq_true rfl⟩ k27 (by decide) rfl (Nat.le_of_ble_eq_true rfl) (dk zX1_homely 20 rfl) ?_
      refine hc6t.mono ?_
      rintro _ m7 ⟨r8, rfl, hm7⟩
      show Ex E MX1_homely Q 39 [(0, .ref 27), (1, .int x1), (2, .int x2), (3, .int x3)] [.int r8] m7
      exact x_iret (ty := .int) rfl rfl (dk zX1_homely 21 rfl) hm7
    · have hc6f := hc3f.2 c6
      refine x_aload_n 0 rfl rfl (dk zX1_homely 14 rfl) ?_
      refine x_callV (as := []) (o := 27) (ci := 1) (st := []) rfl okRX1_42 npX1_allowOneMore ⟨Nat.le_of_ble_eq_true rfl, Nat.le_of_ble_eq_true rfl⟩ k27 (by decide) rfl (Nat.le_of_ble_eq_true rfl) (dk zX1_homely 15 rfl) ?_
      refine hc6f.mono ?_
      rintro _ m9 ⟨r10, rfl, hm9⟩
      show Ex E MX1_homely Q 28 [(0, .ref 27), (1, .int x1), (2, .int x2), (3, .int x3)] [.int r10] m9
      refine x_istore_n (k := 2) (l' := [(0, .ref 27), (1, .int x1), (2, .int r10), (3, .int x3)]) [1, 2, 0, 3] rfl rfl (by decide) (dk zX1_homely 16 rfl) ?_
      obtain ⟨v11, ev11⟩ : ∃ y : Int32, y = x3 + 1 := ⟨_, rfl⟩
      have hv11 := hm9 v11 ev11
      refine x_iinc (v := v11) (l' := [(0, .ref 27), (1, .int x1), (2, .int r10), (3, .int v11)]) 3 rfl (by rw [ev11]; rfl) [1, 2, 3, 0] rfl (by decide) (dk zX1_homely 17 rfl) ?_
      refine x_goto (tgt := 9) (by decide) (dk zX1_homely 18 rfl) ?_
      exact hv11
set_option maxRecDepth 20000 in
set_option maxHeartbeats 2000000 in
theorem gX1_stepsTo_0 {E : EV} {Q : Po} {μ : Mem} {x1 : Int32} (h : Ex E MX1_stepsTo Q 4 [(0, .ref 27), (1, .int x1), (2, .int 0), (3, .int 0)] [] μ) : Ex E MX1_stepsTo Q 0 [(0, .ref 27), (1, .int x1)] [] μ := by
  refine x_iconst (v := 0) (by decide) (dk zX1_stepsTo 0 rfl) ?_
  refine x_istore_n (k := 2) (l' := [(0, .ref 27), (1, .int x1), (2, .int 0)]) [1, 2, 0] rfl rfl (by decide) (dk zX1_stepsTo 1 rfl) ?_
  refine x_iconst (v := 0) (by decide) (dk zX1_stepsTo 2 rfl) ?_
  refine x_istore_n (k := 3) (l' := [(0, .ref 27), (1, .int x1), (2, .int 0), (3, .int 0)]) [1, 2, 3, 0] rfl rfl (by decide) (dk zX1_stepsTo 3 rfl) ?_
  exact h
set_option maxRecDepth 20000 in
set_option maxHeartbeats 2000000 in
theorem gX1_stepsTo_4 {E : EV} {Q : Po} {μ : Mem} {x1 : Int32} {x2 : Int32} {x3 : Int32} (h : ((8 ≤ x3 → Q (some (.int x2)) μ) ∧ (¬ 8 ≤ x3 → ((¬ ((x1 >>> ((x3 : Int32) &&& 31)) &&& 1) = 1 → ∀ v3 : Int32, v3 = x3 + 1 → Ex E MX1_stepsTo Q 4 [(0, .ref 27), (1, .int x1), (2, .int x2), (3, .int v3)] [] μ) ∧ (((x1 >>> ((x3 : Int32) &&& 31)) &&& 1) = 1 → vp_in x3 8 ∧ (∀ v5 : Int32, v5 = x2 + (μ.1 40 x3.toNatClampNeg) → ∀ v6 : Int32, v6 = x3 + 1 → Ex E MX1_stepsTo Q 4 [(0, .ref 27), (1, .int x1), (2, .int v5), (3, .int v6)] [] μ)))))) : Ex E MX1_stepsTo Q 4 [(0, .ref 27), (1, .int x1), (2, .int x2), (3, .int x3)] [] μ := by
  refine x_iload_n 3 rfl rfl (dk zX1_stepsTo 4 rfl) ?_
  refine x_bipush (v := 8) (by decide) (dk zX1_stepsTo 5 rfl) ?_
  refine x_icmp_ge (tgt := 34) (by decide) (dk zX1_stepsTo 6 rfl) (fun c1 => ?_) (fun c1 => ?_)
  · have hc1t := h.1 c1
    refine x_iload_n 2 rfl rfl (dk zX1_stepsTo 23 rfl) ?_
    exact x_iret (ty := .int) rfl rfl (dk zX1_stepsTo 24 rfl) hc1t
  · have hc1f := h.2 c1
    refine x_iload_n 1 rfl rfl (dk zX1_stepsTo 7 rfl) ?_
    refine x_iload_n 3 rfl rfl (dk zX1_stepsTo 8 rfl) ?_
    refine x_ishr (dk zX1_stepsTo 9 rfl) ?_
    refine x_iconst (v := 1) (by decide) (dk zX1_stepsTo 10 rfl) ?_
    refine x_iand (dk zX1_stepsTo 11 rfl) ?_
    refine x_iconst (v := 1) (by decide) (dk zX1_stepsTo 12 rfl) ?_
    refine x_icmp_ne (tgt := 28) (by decide) (dk zX1_stepsTo 13 rfl) (fun c2 => ?_) (fun c2 => ?_)
    · have hc2t := hc1f.1 c2
      obtain ⟨v3, ev3⟩ : ∃ y : Int32, y = x3 + 1 := ⟨_, rfl⟩
      have hv3 := hc2t v3 ev3
      refine x_iinc (v := v3) (l' := [(0, .ref 27), (1, .int x1), (2, .int x2), (3, .int v3)]) 3 rfl (by rw [ev3]; rfl) [1, 2, 3, 0] rfl (by decide) (dk zX1_stepsTo 21 rfl) ?_
      refine x_goto (tgt := 4) (by decide) (dk zX1_stepsTo 22 rfl) ?_
      exact hv3
    · have hc2f := hc1f.2 c2
      refine x_iload_n 2 rfl rfl (dk zX1_stepsTo 14 rfl) ?_
      refine x_aload_n 0 rfl rfl (dk zX1_stepsTo 15 rfl) ?_
      refine gf1_2 (r := 40) rfl k27 r27_2 (dk zX1_stepsTo 16 rfl) ?_
      refine x_iload_n 3 rfl rfl (dk zX1_stepsTo 17 rfl) ?_
      have b4 := hc2f.1
      have hb4 := hc2f.2
      refine y_iald (j := x3.toNatClampNeg) k40 l40 b4 rfl (dk zX1_stepsTo 18 rfl) ?_
      refine x_iadd (dk zX1_stepsTo 19 rfl) ?_
      refine x_topi (fun v5 ev5 => ?_)
      have hv5 := hb4 v5 ev5
      refine x_istore_n (k := 2) (l' := [(0, .ref 27), (1, .int x1), (2, .int v5), (3, .int x3)]) [1, 2, 0, 3] rfl rfl (by decide) (dk zX1_stepsTo 20 rfl) ?_
      obtain ⟨v6, ev6⟩ : ∃ y : Int32, y = x3 + 1 := ⟨_, rfl⟩
      have hv6 := hv5 v6 ev6
      refine x_iinc (v := v6) (l' := [(0, .ref 27), (1, .int x1), (2, .int v5), (3, .int v6)]) 3 rfl (by rw [ev6]; rfl) [1, 2, 3, 0] rfl (by decide) (dk zX1_stepsTo 21 rfl) ?_
      refine x_goto (tgt := 4) (by decide) (dk zX1_stepsTo 22 rfl) ?_
      exact hv6
set_option maxRecDepth 20000 in
set_option maxHeartbeats 2000000 in
theorem gX6_need_0 {E : EV} {Q : Po} {μ : Mem} {x1 : Int32} (h : ((120 ≤ (μ.1 11 3) → Q none μ) ∧ (¬ 120 ≤ (μ.1 11 3) → vp_in (μ.1 11 3) 120 ∧ (∀ v3 : Int32, v3 = ((mI μ 24 ((μ.1 11 3).toNatClampNeg) x1).1 11 3) + 1 → Q none (mI (mI μ 24 ((μ.1 11 3).toNatClampNeg) x1) 11 3 v3))))) : Ex E MX6_need Q 0 [(0, .ref 11), (1, .int x1)] [] μ := by
  refine x_aload_n 0 rfl rfl (dk zX6_need 0 rfl) ?_
  refine gf6_3 rfl k11 (dk zX6_need 1 rfl) ?_
  refine x_bipush (v := 120) (by decide) (dk zX6_need 2 rfl) ?_
  refine x_icmp_ge (tgt := 29) (by decide) (dk zX6_need 3 rfl) (fun c1 => ?_) (fun c1 => ?_)
  · have hc1t := h.1 c1
    exact x_vret rfl (dk zX6_need 16 rfl) hc1t
  · have hc1f := h.2 c1
    refine x_aload_n 0 rfl rfl (dk zX6_need 4 rfl) ?_
    refine gf6_2 (r := 24) rfl k11 r11_2 (dk zX6_need 5 rfl) ?_
    refine x_aload_n 0 rfl rfl (dk zX6_need 6 rfl) ?_
    refine gf6_3 rfl k11 (dk zX6_need 7 rfl) ?_
    refine x_iload_n 1 rfl rfl (dk zX6_need 8 rfl) ?_
    have b2 := hc1f.1
    have hb2 := hc1f.2
    refine y_iast (j := (μ.1 11 3).toNatClampNeg) k24 l24 b2 rfl (dk zX6_need 9 rfl) ?_
    refine x_aload_n 0 rfl rfl (dk zX6_need 10 rfl) ?_
    refine x_dupr (dk zX6_need 11 rfl) ?_
    refine gf6_3 rfl k11 (dk zX6_need 12 rfl) ?_
    refine x_iconst (v := 1) (by decide) (dk zX6_need 13 rfl) ?_
    refine x_iadd (dk zX6_need 14 rfl) ?_
    refine x_topi (fun v3 ev3 => ?_)
    have hv3 := hb2 v3 ev3
    refine pf6_3 rfl k11 (dk zX6_need 15 rfl) ?_
    exact x_vret rfl (dk zX6_need 16 rfl) hv3
set_option maxRecDepth 20000 in
set_option maxHeartbeats 2000000 in
theorem gX6_plan_0 {E : EV} {Q : Po} {μ : Mem} {x1 : Nat} {x2 : Nat} (hk1 : kd x1 = 5) (hk2 : kd x2 = 5) (h : Sp E MX3_openLanes [.ref 1] μ (fun v m1 => ∃ r2 : Int32, v = some (.int r2) ∧ Sp E MX0_measure [.ref 12, .ref 1, .int r2] m1 (fun v m3 => v = none ∧ Sp E MX5_alike [.ref x1, .ref x2] (mI m3 11 3 0) (fun v m4 => ∃ r5 : Int32, v = some (.int r5) ∧ Sp E MX5_size [.ref x1] m4 (fun v m6 => ∃ r7 : Int32, v = some (.int r7) ∧ ∀ v8 : Int32, v8 = r7 - 1 → Ex E MX6_plan Q 37 [(0, .ref 11), (1, .ref x1), (2, .ref x2), (3, .int r5), (4, .int v8)] [] m6))))) : Ex E MX6_plan Q 0 [(0, .ref 11), (1, .ref x1), (2, .ref x2)] [] μ := by
  refine x_aload_n 0 rfl rfl (dk zX6_plan 0 rfl) ?_
  refine gf6_1 (r := 12) rfl k11 r11_1 (dk zX6_plan 1 rfl) ?_
  refine x_aload_n 0 rfl rfl (dk zX6_plan 2 rfl) ?_
  refine gf6_0 (r := 1) rfl k11 r11_0 (dk zX6_plan 3 rfl) ?_
  refine x_aload_n 0 rfl rfl (dk zX6_plan 4 rfl) ?_
  refine gf6_0 (r := 1) rfl k11 r11_0 (dk zX6_plan 5 rfl) ?_
  refine x_callV (as := []) (o := 1) (ci := 3) (st := [.ref 1, .ref 12]) rfl okRX6_33 npX3_openLanes ⟨Nat.le_of_ble_eq_true rfl, Nat.le_of_ble_eq_true rfl⟩ k1 (by decide) rfl (Nat.le_of_ble_eq_true rfl) (dk zX6_plan 6 rfl) ?_
  refine h.mono ?_
  rintro _ m1 ⟨r2, rfl, hm1⟩
  show Ex E MX6_plan Q 15 [(0, .ref 11), (1, .ref x1), (2, .ref x2)] [.int r2, .ref 1, .ref 12] m1
  refine x_callV (as := [.ref 1, .int r2]) (o := 12) (ci := 0) (st := []) rfl okRX6_39 npX0_measure ⟨Nat.le_of_ble_eq_true rfl, Nat.le_of_ble_eq_true rfl⟩ k12 (by decide) rfl (Nat.le_of_ble_eq_true rfl) (dk zX6_plan 7 rfl) ?_
  refine hm1.mono ?_
  rintro _ m3 ⟨rfl, hm3⟩
  show Ex E MX6_plan Q 18 [(0, .ref 11), (1, .ref x1), (2, .ref x2)] [] m3
  refine x_aload_n 0 rfl rfl (dk zX6_plan 8 rfl) ?_
  refine x_iconst (v := 0) (by decide) (dk zX6_plan 9 rfl) ?_
  refine pf6_3 rfl k11 (dk zX6_plan 10 rfl) ?_
  refine x_aload_n 1 rfl rfl (dk zX6_plan 11 rfl) ?_
  refine x_aload_n 2 rfl rfl (dk zX6_plan 12 rfl) ?_
  refine x_callV (as := [.ref x2]) (o := x1) (ci := 5) (st := []) rfl okRX6_47 npX5_alike ⟨Nat.le_of_ble_eq_true rfl, Nat.le_of_ble_eq_true rfl⟩ hk1 (by decide) rfl (Nat.le_of_ble_eq_true rfl) (dk zX6_plan 13 rfl) ?_
  refine hm3.mono ?_
  rintro _ m4 ⟨r5, rfl, hm4⟩
  show Ex E MX6_plan Q 28 [(0, .ref 11), (1, .ref x1), (2, .ref x2)] [.int r5] m4
  refine x_istore_n (k := 3) (l' := [(0, .ref 11), (1, .ref x1), (2, .ref x2), (3, .int r5)]) [1, 2, 3, 0] rfl rfl (by decide) (dk zX6_plan 14 rfl) ?_
  refine x_aload_n 1 rfl rfl (dk zX6_plan 15 rfl) ?_
  refine x_callV (as := []) (o := x1) (ci := 5) (st := []) rfl okRX6_53 npX5_size ⟨Nat.le_of_ble_eq_true rfl, Nat.le_of_ble_eq_true rfl⟩ hk1 (by decide) rfl (Nat.le_of_ble_eq_true rfl) (dk zX6_plan 16 rfl) ?_
  refine hm4.mono ?_
  rintro _ m6 ⟨r7, rfl, hm6⟩
  show Ex E MX6_plan Q 33 [(0, .ref 11), (1, .ref x1), (2, .ref x2), (3, .int r5)] [.int r7] m6
  refine x_iconst (v := 1) (by decide) (dk zX6_plan 17 rfl) ?_
  refine x_isub (dk zX6_plan 18 rfl) ?_
  refine x_topi (fun v8 ev8 => ?_)
  have hv8 := hm6 v8 ev8
  refine x_istoreG (l' := [(0, .ref 11), (1, .ref x1), (2, .ref x2), (3, .int r5), (4, .int v8)]) [1, 2, 3, 4, 0] rfl (by decide) (dk zX6_plan 19 rfl) ?_
  exact hv8
set_option maxRecDepth 20000 in
set_option maxHeartbeats 2000000 in
theorem gX6_plan_37 {E : EV} {Q : Po} {μ : Mem} {x1 : Nat} {x2 : Nat} {x3 : Int32} {x4 : Int32} (hk_x1 : kd x1 = 5) (hk_x2 : kd x2 = 5) (h : ((x4 < x3 → Ex E MX6_plan Q 64 [(0, .ref 11), (1, .ref x1), (2, .ref x2), (3, .int x3), (4, .int x3)] [] μ) ∧ (¬ x4 < x3 → Sp E MX5_at [.ref x1, .int x4] μ (fun v m2 => ∃ r3 : Int32, v = some (.int r3) ∧ Sp E MX6_need [.ref 11, .int (r3 ^^^ 1)] m2 (fun v m4 => v = none ∧ ∀ v5 : Int32, v5 = x4 + (-1) → Ex E MX6_plan Q 37 [(0, .ref 11), (1, .ref x1), (2, .ref x2), (3, .int x3), (4, .int v5)] [] m4))))) : Ex E MX6_plan Q 37 [(0, .ref 11), (1, .ref x1), (2, .ref x2), (3, .int x3), (4, .int x4)] [] μ := by
  refine x_iload 4 rfl (dk zX6_plan 20 rfl) ?_
  refine x_iload_n 3 rfl rfl (dk zX6_plan 21 rfl) ?_
  refine x_icmp_lt (tgt := 61) (by decide) (dk zX6_plan 22 rfl) (fun c1 => ?_) (fun c1 => ?_)
  · have hc1t := h.1 c1
    refine x_iload_n 3 rfl rfl (dk zX6_plan 32 rfl) ?_
    refine x_istoreG (l' := [(0, .ref 11), (1, .ref x1), (2, .ref x2), (3, .int x3), (4, .int x3)]) [1, 2, 3, 4, 0] rfl (by decide) (dk zX6_plan 33 rfl) ?_
    exact hc1t
  · have hc1f := h.2 c1
    refine x_aload_n 0 rfl rfl (dk zX6_plan 23 rfl) ?_
    refine x_aload_n 1 rfl rfl (dk zX6_plan 24 rfl) ?_
    refine x_iload 4 rfl (dk zX6_plan 25 rfl) ?_
    refine x_callV (as := [.int x4]) (o := x1) (ci := 5) (st := [.ref 11]) rfl okRX6_55 npX5_at ⟨Nat.le_of_ble_eq_true rfl, Nat.le_of_ble_eq_true rfl⟩ hk_x1 (by decide) rfl (Nat.le_of_ble_eq_true rfl) (dk zX6_plan 26 rfl) ?_
    refine hc1f.mono ?_
    rintro _ m2 ⟨r3, rfl, hm2⟩
    show Ex E MX6_plan Q 50 [(0, .ref 11), (1, .ref x1), (2, .ref x2), (3, .int x3), (4, .int x4)] [.int r3, .ref 11] m2
    refine x_iconst (v := 1) (by decide) (dk zX6_plan 27 rfl) ?_
    refine x_ixor (dk zX6_plan 28 rfl) ?_
    refine x_callV (as := [.int (r3 ^^^ 1)]) (o := 11) (ci := 6) (st := []) rfl okRX6_59 npX6_need ⟨Nat.le_of_ble_eq_true rfl, Nat.le_of_ble_eq_true rfl⟩ k11 (by decide) rfl (Nat.le_of_ble_eq_true rfl) (dk zX6_plan 29 rfl) ?_
    refine hm2.mono ?_
    rintro _ m4 ⟨rfl, hm4⟩
    show Ex E MX6_plan Q 55 [(0, .ref 11), (1, .ref x1), (2, .ref x2), (3, .int x3), (4, .int x4)] [] m4
    obtain ⟨v5, ev5⟩ : ∃ y : Int32, y = x4 + (-1) := ⟨_, rfl⟩
    have hv5 := hm4 v5 ev5
    refine x_iinc (v := v5) (l' := [(0, .ref 11), (1, .ref x1), (2, .ref x2), (3, .int x3), (4, .int v5)]) 4 rfl (by rw [ev5]; rfl) [1, 2, 3, 4, 0] rfl (by decide) (dk zX6_plan 30 rfl) ?_
    refine x_goto (tgt := 37) (by decide) (dk zX6_plan 31 rfl) ?_
    exact hv5
set_option maxRecDepth 20000 in
set_option maxHeartbeats 2000000 in
theorem gX6_plan_64 {E : EV} {Q : Po} {μ : Mem} {x1 : Nat} {x2 : Nat} {x3 : Int32} {x4 : Int32} (hk_x1 : kd x1 = 5) (hk_x2 : kd x2 = 5) (h : Sp E MX5_size [.ref x2] μ (fun v m1 => ∃ r2 : Int32, v = some (.int r2) ∧ ((r2 ≤ x4 → Q none m1) ∧ (¬ r2 ≤ x4 → Sp E MX5_at [.ref x2, .int x4] m1 (fun v m4 => ∃ r5 : Int32, v = some (.int r5) ∧ Sp E MX6_need [.ref 11, .int r5] m4 (fun v m6 => v = none ∧ ∀ v7 : Int32, v7 = x4 + 1 → Ex E MX6_plan Q 64 [(0, .ref 11), (1, .ref x1), (2, .ref x2), (3, .int x3), (4, .int v7)] [] m6)))))) : Ex E MX6_plan Q 64 [(0, .ref 11), (1, .ref x1), (2, .ref x2), (3, .int x3), (4, .int x4)] [] μ := by
  refine x_iload 4 rfl (dk zX6_plan 34 rfl) ?_
  refine x_aload_n 2 rfl rfl (dk zX6_plan 35 rfl) ?_
  refine x_callV (as := []) (o := x2) (ci := 5) (st := [.int x4]) rfl okRX6_53 npX5_size ⟨Nat.le_of_ble_eq_true rfl, Nat.le_of_ble_eq_true rfl⟩ hk_x2 (by decide) rfl (Nat.le_of_ble_eq_true rfl) (dk zX6_plan 36 rfl) ?_
  refine h.mono ?_
  rintro _ m1 ⟨r2, rfl, hm1⟩
  show Ex E MX6_plan Q 70 [(0, .ref 11), (1, .ref x1), (2, .ref x2), (3, .int x3), (4, .int x4)] [.int r2, .int x4] m1
  refine x_icmp_ge (tgt := 89) (by decide) (dk zX6_plan 37 rfl) (fun c3 => ?_) (fun c3 => ?_)
  · have hc3t := hm1.1 c3
    exact x_vret rfl (dk zX6_plan 45 rfl) hc3t
  · have hc3f := hm1.2 c3
    refine x_aload_n 0 rfl rfl (dk zX6_plan 38 rfl) ?_
    refine x_aload_n 2 rfl rfl (dk zX6_plan 39 rfl) ?_
    refine x_iload 4 rfl (dk zX6_plan 40 rfl) ?_
    refine x_callV (as := [.int x4]) (o := x2) (ci := 5) (st := [.ref 11]) rfl okRX6_55 npX5_at ⟨Nat.le_of_ble_eq_true rfl, Nat.le_of_ble_eq_true rfl⟩ hk_x2 (by decide) rfl (Nat.le_of_ble_eq_true rfl) (dk zX6_plan 41 rfl) ?_
    refine hc3f.mono ?_
    rintro _ m4 ⟨r5, rfl, hm4⟩
    show Ex E MX6_plan Q 80 [(0, .ref 11), (1, .ref x1), (2, .ref x2), (3, .int x3), (4, .int x4)] [.int r5, .ref 11] m4
    refine x_callV (as := [.int r5]) (o := 11) (ci := 6) (st := []) rfl okRX6_59 npX6_need ⟨Nat.le_of_ble_eq_true rfl, Nat.le_of_ble_eq_true rfl⟩ k11 (by decide) rfl (Nat.le_of_ble_eq_true rfl) (dk zX6_plan 42 rfl) ?_
    refine hm4.mono ?_
    rintro _ m6 ⟨rfl, hm6⟩
    show Ex E MX6_plan Q 83 [(0, .ref 11), (1, .ref x1), (2, .ref x2), (3, .int x3), (4, .int x4)] [] m6
    obtain ⟨v7, ev7⟩ : ∃ y : Int32, y = x4 + 1 := ⟨_, rfl⟩
    have hv7 := hm6 v7 ev7
    refine x_iinc (v := v7) (l' := [(0, .ref 11), (1, .ref x1), (2, .ref x2), (3, .int x3), (4, .int v7)]) 4 rfl (by rw [ev7]; rfl) [1, 2, 3, 4, 0] rfl (by decide) (dk zX6_plan 43 rfl) ?_
    refine x_goto (tgt := 64) (by decide) (dk zX6_plan 44 rfl) ?_
    exact hv7
set_option maxRecDepth 20000 in
set_option maxHeartbeats 2000000 in
theorem gX6_needAt_0 {E : EV} {Q : Po} {μ : Mem} {x1 : Int32} (h : ((x1 < 0 → Q (some (.int ((-1)))) μ) ∧ (¬ x1 < 0 → (((μ.1 11 3) ≤ x1 → Q (some (.int ((-1)))) μ) ∧ (¬ (μ.1 11 3) ≤ x1 → vp_in x1 120 ∧ (Q (some (.int (μ.1 24 x1.toNatClampNeg))) μ)))))) : Ex E MX6_needAt Q 0 [(0, .ref 11), (1, .int x1)] [] μ := by
  refine x_iload_n 1 rfl rfl (dk zX6_needAt 0 rfl) ?_
  refine x_if_lt (tgt := 21) (by decide) (dk zX6_needAt 1 rfl) (fun c1 => ?_) (fun c1 => ?_)
  · have hc1t := h.1 c1
    refine x_iconst (v := -1) (by decide) (dk zX6_needAt 11 rfl) ?_
    exact x_iret (ty := .int) rfl rfl (dk zX6_needAt 12 rfl) hc1t
  · have hc1f := h.2 c1
    refine x_iload_n 1 rfl rfl (dk zX6_needAt 2 rfl) ?_
    refine x_aload_n 0 rfl rfl (dk zX6_needAt 3 rfl) ?_
    refine gf6_3 rfl k11 (dk zX6_needAt 4 rfl) ?_
    refine x_icmp_ge (tgt := 21) (by decide) (dk zX6_needAt 5 rfl) (fun c2 => ?_) (fun c2 => ?_)
    · have hc2t := hc1f.1 c2
      refine x_iconst (v := -1) (by decide) (dk zX6_needAt 11 rfl) ?_
      exact x_iret (ty := .int) rfl rfl (dk zX6_needAt 12 rfl) hc2t
    · have hc2f := hc1f.2 c2
      refine x_aload_n 0 rfl rfl (dk zX6_needAt 6 rfl) ?_
      refine gf6_2 (r := 24) rfl k11 r11_2 (dk zX6_needAt 7 rfl) ?_
      refine x_iload_n 1 rfl rfl (dk zX6_needAt 8 rfl) ?_
      have b3 := hc2f.1
      have hb3 := hc2f.2
      refine y_iald (j := x1.toNatClampNeg) k24 l24 b3 rfl (dk zX6_needAt 9 rfl) ?_
      refine x_goto (tgt := 22) (by decide) (dk zX6_needAt 10 rfl) ?_
      exact x_iret (ty := .int) rfl rfl (dk zX6_needAt 12 rfl) hb3
set_option maxRecDepth 20000 in
set_option maxHeartbeats 2000000 in
theorem gX6_goal_0 {E : EV} {Q : Po} {μ : Mem} {x1 : Int32} {x2 : Int32} (h : (((μ.1 11 3) ≤ x1 → Q (some (.int x2)) μ) ∧ (¬ (μ.1 11 3) ≤ x1 → Sp E MX6_needAt [.ref 11, .int x1] μ (fun v m2 => ∃ r3 : Int32, v = some (.int r3) ∧ Sp E MX3_from [.ref 1, .int r3] m2 (fun v m4 => ∃ r5 : Int32, v = some (.int r5) ∧ Q (some (.int r5)) m4))))) : Ex E MX6_goal Q 0 [(0, .ref 11), (1, .int x1), (2, .int x2)] [] μ := by
  refine x_iload_n 1 rfl rfl (dk zX6_goal 0 rfl) ?_
  refine x_aload_n 0 rfl rfl (dk zX6_goal 1 rfl) ?_
  refine gf6_3 rfl k11 (dk zX6_goal 2 rfl) ?_
  refine x_icmp_ge (tgt := 23) (by decide) (dk zX6_goal 3 rfl) (fun c1 => ?_) (fun c1 => ?_)
  · have hc1t := h.1 c1
    refine x_iload_n 2 rfl rfl (dk zX6_goal 11 rfl) ?_
    exact x_iret (ty := .int) rfl rfl (dk zX6_goal 12 rfl) hc1t
  · have hc1f := h.2 c1
    refine x_aload_n 0 rfl rfl (dk zX6_goal 4 rfl) ?_
    refine gf6_0 (r := 1) rfl k11 r11_0 (dk zX6_goal 5 rfl) ?_
    refine x_aload_n 0 rfl rfl (dk zX6_goal 6 rfl) ?_
    refine x_iload_n 1 rfl rfl (dk zX6_goal 7 rfl) ?_
    refine x_callV (as := [.int x1]) (o := 11) (ci := 6) (st := [.ref 1]) rfl okRX6_63 npX6_needAt ⟨Nat.le_of_ble_eq_true rfl, Nat.le_of_ble_eq_true rfl⟩ k11 (by decide) rfl (Nat.le_of_ble_eq_true rfl) (dk zX6_goal 8 rfl) ?_
    refine hc1f.mono ?_
    rintro _ m2 ⟨r3, rfl, hm2⟩
    show Ex E MX6_goal Q 17 [(0, .ref 11), (1, .int x1), (2, .int x2)] [.int r3, .ref 1] m2
    refine x_callV (as := [.int r3]) (o := 1) (ci := 3) (st := []) rfl okRX6_66 npX3_from ⟨Nat.le_of_ble_eq_true rfl, Nat.le_of_ble_eq_true rfl⟩ k1 (by decide) rfl (Nat.le_of_ble_eq_true rfl) (dk zX6_goal 9 rfl) ?_
    refine hm2.mono ?_
    rintro _ m4 ⟨r5, rfl, hm4⟩
    show Ex E MX6_goal Q 20 [(0, .ref 11), (1, .int x1), (2, .int x2)] [.int r5] m4
    refine x_goto (tgt := 24) (by decide) (dk zX6_goal 10 rfl) ?_
    exact x_iret (ty := .int) rfl rfl (dk zX6_goal 12 rfl) hm4
set_option maxRecDepth 20000 in
set_option maxHeartbeats 2000000 in
theorem gX6_origin_0 {E : EV} {Q : Po} {μ : Mem} {x1 : Int32} {x2 : Int32} (h : ((¬ x1 = 0 → Sp E MX6_needAt [.ref 11, .int (x1 - 1)] μ (fun v m2 => ∃ r3 : Int32, v = some (.int r3) ∧ Sp E MX3_to [.ref 1, .int r3] m2 (fun v m4 => ∃ r5 : Int32, v = some (.int r5) ∧ Q (some (.int r5)) m4))) ∧ (x1 = 0 → Q (some (.int x2)) μ))) : Ex E MX6_origin Q 0 [(0, .ref 11), (1, .int x1), (2, .int x2)] [] μ := by
  refine x_iload_n 1 rfl rfl (dk zX6_origin 0 rfl) ?_
  refine x_if_ne (tgt := 8) (by decide) (dk zX6_origin 1 rfl) (fun c1 => ?_) (fun c1 => ?_)
  · have hc1t := h.1 c1
    refine x_aload_n 0 rfl rfl (dk zX6_origin 4 rfl) ?_
    refine gf6_0 (r := 1) rfl k11 r11_0 (dk zX6_origin 5 rfl) ?_
    refine x_aload_n 0 rfl rfl (dk zX6_origin 6 rfl) ?_
    refine x_iload_n 1 rfl rfl (dk zX6_origin 7 rfl) ?_
    refine x_iconst (v := 1) (by decide) (dk zX6_origin 8 rfl) ?_
    refine x_isub (dk zX6_origin 9 rfl) ?_
    refine x_callV (as := [.int (x1 - 1)]) (o := 11) (ci := 6) (st := [.ref 1]) rfl okRX6_63 npX6_needAt ⟨Nat.le_of_ble_eq_true rfl, Nat.le_of_ble_eq_true rfl⟩ k11 (by decide) rfl (Nat.le_of_ble_eq_true rfl) (dk zX6_origin 10 rfl) ?_
    refine hc1t.mono ?_
    rintro _ m2 ⟨r3, rfl, hm2⟩
    show Ex E MX6_origin Q 19 [(0, .ref 11), (1, .int x1), (2, .int x2)] [.int r3, .ref 1] m2
    refine x_callV (as := [.int r3]) (o := 1) (ci := 3) (st := []) rfl okRX6_69 npX3_to ⟨Nat.le_of_ble_eq_true rfl, Nat.le_of_ble_eq_true rfl⟩ k1 (by decide) rfl (Nat.le_of_ble_eq_true rfl) (dk zX6_origin 11 rfl) ?_
    refine hm2.mono ?_
    rintro _ m4 ⟨r5, rfl, hm4⟩
    show Ex E MX6_origin Q 22 [(0, .ref 11), (1, .int x1), (2, .int x2)] [.int r5] m4
    exact x_iret (ty := .int) rfl rfl (dk zX6_origin 12 rfl) hm4
  · have hc1f := h.2 c1
    refine x_iload_n 2 rfl rfl (dk zX6_origin 2 rfl) ?_
    refine x_goto (tgt := 22) (by decide) (dk zX6_origin 3 rfl) ?_
    exact x_iret (ty := .int) rfl rfl (dk zX6_origin 12 rfl) hc1f
set_option maxRecDepth 20000 in
set_option maxHeartbeats 2000000 in
theorem gX6_gatesBetween_0 {E : EV} {Q : Po} {μ : Mem} {x1 : Int32} {x2 : Int32} (h : ∀ v1 : Int32, v1 = μ.1 11 3 → Ex E MX6_gatesBetween Q 8 [(0, .ref 11), (1, .int x1), (2, .int x2), (3, .int v1), (4, .int 0)] [] μ) : Ex E MX6_gatesBetween Q 0 [(0, .ref 11), (1, .int x1), (2, .int x2)] [] μ := by
  refine x_aload_n 0 rfl rfl (dk zX6_gatesBetween 0 rfl) ?_
  refine gf6_3 rfl k11 (dk zX6_gatesBetween 1 rfl) ?_
  refine x_topi (fun v1 ev1 => ?_)
  have hv1 := h v1 ev1
  refine x_istore_n (k := 3) (l' := [(0, .ref 11), (1, .int x1), (2, .int x2), (3, .int v1)]) [1, 2, 3, 0] rfl rfl (by decide) (dk zX6_gatesBetween 2 rfl) ?_
  refine x_iconst (v := 0) (by decide) (dk zX6_gatesBetween 3 rfl) ?_
  refine x_istoreG (l' := [(0, .ref 11), (1, .int x1), (2, .int x2), (3, .int v1), (4, .int 0)]) [1, 2, 3, 4, 0] rfl (by decide) (dk zX6_gatesBetween 4 rfl) ?_
  exact hv1
set_option maxRecDepth 20000 in
set_option maxHeartbeats 2000000 in
theorem gX6_gatesBetween_8 {E : EV} {Q : Po} {μ : Mem} {x1 : Int32} {x2 : Int32} {x3 : Int32} {x4 : Int32} (h : (((μ.1 11 3) < x4 → Q (some (.int x3)) μ) ∧ (¬ (μ.1 11 3) < x4 → Sp E MX6_origin [.ref 11, .int x4, .int x1] μ (fun v m2 => ∃ r3 : Int32, v = some (.int r3) ∧ Sp E MX6_goal [.ref 11, .int x4, .int x2] m2 (fun v m4 => ∃ r5 : Int32, v = some (.int r5) ∧ Sp E MX0_between [.ref 12, .int r3, .int r5] m4 (fun v m6 => ∃ r7 : Int32, v = some (.int r7) ∧ ((r7 = ((-1)) → Q (some (.int ((-1)))) m6) ∧ (¬ r7 = ((-1)) → (((m6.1 11 3) ≤ x4 → ∀ v10 : Int32, v10 = x3 + r7 → ∀ v11 : Int32, v11 = x4 + 1 → Ex E MX6_gatesBetween Q 8 [(0, .ref 11), (1, .int x1), (2, .int x2), (3, .int v10), (4, .int v11)] [] m6) ∧ (¬ (m6.1 11 3) ≤ x4 → Sp E MX6_needAt [.ref 11, .int x4] m6 (fun v m12 => ∃ r13 : Int32, v = some (.int r13) ∧ Sp E MX3_isOpen [.ref 1, .int r13] m12 (fun v m14 => ∃ r15 : Int32, v = some (.int r15) ∧ ((¬ r15 = 0 → ∀ v17 : Int32, v17 = x3 + r7 → ∀ v18 : Int32, v18 = x4 + 1 → Ex E MX6_gatesBetween Q 8 [(0, .ref 11), (1, .int x1), (2, .int x2), (3, .int v17), (4, .int v18)] [] m14) ∧ (r15 = 0 → Q (some (.int ((-1)))) m14)))))))))))))) : Ex E MX6_gatesBetween Q 8 [(0, .ref 11), (1, .int x1), (2, .int x2), (3, .int x3), (4, .int x4)] [] μ := by
  refine x_iload 4 rfl (dk zX6_gatesBetween 5 rfl) ?_
  refine x_aload_n 0 rfl rfl (dk zX6_gatesBetween 6 rfl) ?_
  refine gf6_3 rfl k11 (dk zX6_gatesBetween 7 rfl) ?_
  refine x_icmp_gt (tgt := 84) (by decide) (dk zX6_gatesBetween 8 rfl) (fun c1 => ?_) (fun c1 => ?_)
  · have hc1t := h.1 c1
    refine x_iload_n 3 rfl rfl (dk zX6_gatesBetween 43 rfl) ?_
    exact x_iret (ty := .int) rfl rfl (dk zX6_gatesBetween 44 rfl) hc1t
  · have hc1f := h.2 c1
    refine x_aload_n 0 rfl rfl (dk zX6_gatesBetween 9 rfl) ?_
    refine gf6_1 (r := 12) rfl k11 r11_1 (dk zX6_gatesBetween 10 rfl) ?_
    refine x_aload_n 0 rfl rfl (dk zX6_gatesBetween 11 rfl) ?_
    refine x_iload 4 rfl (dk zX6_gatesBetween 12 rfl) ?_
    refine x_iload_n 1 rfl rfl (dk zX6_gatesBetween 13 rfl) ?_
    refine x_callV (as := [.int x4, .int x1]) (o := 11) (ci := 6) (st := [.ref 12]) rfl okRX6_72 npX6_origin ⟨Nat.le_of_ble_eq_true rfl, Nat.le_of_ble_eq_true rfl⟩ k11 (by decide) rfl (Nat.le_of_ble_eq_true rfl) (dk zX6_gatesBetween 14 rfl) ?_
    refine hc1f.mono ?_
    rintro _ m2 ⟨r3, rfl, hm2⟩
    show Ex E MX6_gatesBetween Q 28 [(0, .ref 11), (1, .int x1), (2, .int x2), (3, .int x3), (4, .int x4)] [.int r3, .ref 12] m2
    refine x_aload_n 0 rfl rfl (dk zX6_gatesBetween 15 rfl) ?_
    refine x_iload 4 rfl (dk zX6_gatesBetween 16 rfl) ?_
    refine x_iload_n 2 rfl rfl (dk zX6_gatesBetween 17 rfl) ?_
    refine x_callV (as := [.int x4, .int x2]) (o := 11) (ci := 6) (st := [.int r3, .ref 12]) rfl okRX6_76 npX6_goal ⟨Nat.le_of_ble_eq_true rfl, Nat.le_of_ble_eq_true rfl⟩ k11 (by decide) rfl (Nat.le_of_ble_eq_true rfl) (dk zX6_gatesBetween 18 rfl) ?_
    refine hm2.mono ?_
    rintro _ m4 ⟨r5, rfl, hm4⟩
    show Ex E MX6_gatesBetween Q 35 [(0, .ref 11), (1, .int x1), (2, .int x2), (3, .int x3), (4, .int x4)] [.int r5, .int r3, .ref 12] m4
    refine x_callV (as := [.int r3, .int r5]) (o := 12) (ci := 0) (st := []) rfl okRX6_79 npX0_between ⟨Nat.le_of_ble_eq_true rfl, Nat.le_of_ble_eq_true rfl⟩ k12 (by decide) rfl (Nat.le_of_ble_eq_true rfl) (dk zX6_gatesBetween 19 rfl) ?_
    refine hm4.mono ?_
    rintro _ m6 ⟨r7, rfl, hm6⟩
    show Ex E MX6_gatesBetween Q 38 [(0, .ref 11), (1, .int x1), (2, .int x2), (3, .int x3), (4, .int x4)] [.int r7] m6
    refine x_istoreG (l' := [(0, .ref 11), (1, .int x1), (2, .int x2), (3, .int x3), (4, .int x4), (5, .int r7)]) [1, 2, 3, 4, 5, 0] rfl (by decide) (dk zX6_gatesBetween 20 rfl) ?_
    refine x_iload 5 rfl (dk zX6_gatesBetween 21 rfl) ?_
    refine x_iconst (v := -1) (by decide) (dk zX6_gatesBetween 22 rfl) ?_
    refine x_icmp_eq (tgt := 71) (by decide) (dk zX6_gatesBetween 23 rfl) (fun c8 => ?_) (fun c8 => ?_)
    · have hc8t := hm6.1 c8
      refine x_iconst (v := -1) (by decide) (dk zX6_gatesBetween 35 rfl) ?_
      exact x_iret (ty := .int) rfl rfl (dk zX6_gatesBetween 36 rfl) hc8t
    · have hc8f := hm6.2 c8
      refine x_iload 4 rfl (dk zX6_gatesBetween 24 rfl) ?_
      refine x_aload_n 0 rfl rfl (dk zX6_gatesBetween 25 rfl) ?_
      refine gf6_3 rfl k11 (dk zX6_gatesBetween 26 rfl) ?_
      refine x_icmp_ge (tgt := 73) (by decide) (dk zX6_gatesBetween 27 rfl) (fun c9 => ?_) (fun c9 => ?_)
      · have hc9t := hc8f.1 c9
        refine x_iload_n 3 rfl rfl (dk zX6_gatesBetween 37 rfl) ?_
        refine x_iload 5 rfl (dk zX6_gatesBetween 38 rfl) ?_
        refine x_iadd (dk zX6_gatesBetween 39 rfl) ?_
        refine x_topi (fun v10 ev10 => ?_)
        have hv10 := hc9t v10 ev10
        refine x_istore_n (k := 3) (l' := [(0, .ref 11), (1, .int x1), (2, .int x2), (3, .int v10), (4, .int x4), (5, .int r7)]) [1, 2, 3, 0, 4, 5] rfl rfl (by decide) (dk zX6_gatesBetween 40 rfl) ?_
        obtain ⟨v11, ev11⟩ : ∃ y : Int32, y = x4 + 1 := ⟨_, rfl⟩
        have hv11 := hv10 v11 ev11
        refine x_iinc (v := v11) (l' := [(0, .ref 11), (1, .int x1), (2, .int x2), (3, .int v10), (4, .int v11), (5, .int r7)]) 4 rfl (by rw [ev11]; rfl) [1, 2, 3, 4, 0, 5] rfl (by decide) (dk zX6_gatesBetween 41 rfl) ?_
        refine x_goto (tgt := 8) (by decide) (dk zX6_gatesBetween 42 rfl) ?_
        exact x_sub [0, 1, 2, 3, 4] rfl hv11
      · have hc9f := hc8f.2 c9
        refine x_aload_n 0 rfl rfl (dk zX6_gatesBetween 28 rfl) ?_
        refine gf6_0 (r := 1) rfl k11 r11_0 (dk zX6_gatesBetween 29 rfl) ?_
        refine x_aload_n 0 rfl rfl (dk zX6_gatesBetween 30 rfl) ?_
        refine x_iload 4 rfl (dk zX6_gatesBetween 31 rfl) ?_
        refine x_callV (as := [.int x4]) (o := 11) (ci := 6) (st := [.ref 1]) rfl okRX6_63 npX6_needAt ⟨Nat.le_of_ble_eq_true rfl, Nat.le_of_ble_eq_true rfl⟩ k11 (by decide) rfl (Nat.le_of_ble_eq_true rfl) (dk zX6_gatesBetween 32 rfl) ?_
        refine hc9f.mono ?_
        rintro _ m12 ⟨r13, rfl, hm12⟩
        show Ex E MX6_gatesBetween Q 65 [(0, .ref 11), (1, .int x1), (2, .int x2), (3, .int x3), (4, .int x4), (5, .int r7)] [.int r13, .ref 1] m12
        refine x_callV (as := [.int r13]) (o := 1) (ci := 3) (st := []) rfl okRX6_82 npX3_isOpen ⟨Nat.le_of_ble_eq_true rfl, Nat.le_of_ble_eq_true rfl⟩ k1 (by decide) rfl (Nat.le_of_ble_eq_true rfl) (dk zX6_gatesBetween 33 rfl) ?_
        refine hm12.mono ?_
        rintro _ m14 ⟨r15, rfl, hm14⟩
        show Ex E MX6_gatesBetween Q 68 [(0, .ref 11), (1, .int x1), (2, .int x2), (3, .int x3), (4, .int x4), (5, .int r7)] [.int r15] m14
        refine x_if_ne (tgt := 73) (by decide) (dk zX6_gatesBetween 34 rfl) (fun c16 => ?_) (fun c16 => ?_)
        · have hc16t := hm14.1 c16
          refine x_iload_n 3 rfl rfl (dk zX6_gatesBetween 37 rfl) ?_
          refine x_iload 5 rfl (dk zX6_gatesBetween 38 rfl) ?_
          refine x_iadd (dk zX6_gatesBetween 39 rfl) ?_
          refine x_topi (fun v17 ev17 => ?_)
          have hv17 := hc16t v17 ev17
          refine x_istore_n (k := 3) (l' := [(0, .ref 11), (1, .int x1), (2, .int x2), (3, .int v17), (4, .int x4), (5, .int r7)]) [1, 2, 3, 0, 4, 5] rfl rfl (by decide) (dk zX6_gatesBetween 40 rfl) ?_
          obtain ⟨v18, ev18⟩ : ∃ y : Int32, y = x4 + 1 := ⟨_, rfl⟩
          have hv18 := hv17 v18 ev18
          refine x_iinc (v := v18) (l' := [(0, .ref 11), (1, .int x1), (2, .int x2), (3, .int v17), (4, .int v18), (5, .int r7)]) 4 rfl (by rw [ev18]; rfl) [1, 2, 3, 4, 0, 5] rfl (by decide) (dk zX6_gatesBetween 41 rfl) ?_
          refine x_goto (tgt := 8) (by decide) (dk zX6_gatesBetween 42 rfl) ?_
          exact x_sub [0, 1, 2, 3, 4] rfl hv18
        · have hc16f := hm14.2 c16
          refine x_iconst (v := -1) (by decide) (dk zX6_gatesBetween 35 rfl) ?_
          exact x_iret (ty := .int) rfl rfl (dk zX6_gatesBetween 36 rfl) hc16f
set_option maxRecDepth 20000 in
set_option maxHeartbeats 2000000 in
theorem gX6_isLane_0 {E : EV} {Q : Po} {μ : Mem} {x1 : Int32} (h : Sp E MX3_isOpen [.ref 1, .int x1] μ (fun v m1 => ∃ r2 : Int32, v = some (.int r2) ∧ ((r2 = 0 → Q (some (.int 0)) m1) ∧ (¬ r2 = 0 → Sp E MX3_isWatched [.ref 1, .int x1] m1 (fun v m4 => ∃ r5 : Int32, v = some (.int r5) ∧ ((¬ r5 = 0 → Q (some (.int 0)) m4) ∧ (r5 = 0 → Q (some (.int 1)) m4))))))) : Ex E MX6_isLane Q 0 [(0, .ref 11), (1, .int x1)] [] μ := by
  refine x_aload_n 0 rfl rfl (dk zX6_isLane 0 rfl) ?_
  refine gf6_0 (r := 1) rfl k11 r11_0 (dk zX6_isLane 1 rfl) ?_
  refine x_iload_n 1 rfl rfl (dk zX6_isLane 2 rfl) ?_
  refine x_callV (as := [.int x1]) (o := 1) (ci := 3) (st := []) rfl okRX6_82 npX3_isOpen ⟨Nat.le_of_ble_eq_true rfl, Nat.le_of_ble_eq_true rfl⟩ k1 (by decide) rfl (Nat.le_of_ble_eq_true rfl) (dk zX6_isLane 3 rfl) ?_
  refine h.mono ?_
  rintro _ m1 ⟨r2, rfl, hm1⟩
  show Ex E MX6_isLane Q 8 [(0, .ref 11), (1, .int x1)] [.int r2] m1
  refine x_if_eq (tgt := 26) (by decide) (dk zX6_isLane 4 rfl) (fun c3 => ?_) (fun c3 => ?_)
  · have hc3t := hm1.1 c3
    refine x_iconst (v := 0) (by decide) (dk zX6_isLane 12 rfl) ?_
    exact x_iret rfl rfl (dk zX6_isLane 13 rfl) hc3t
  · have hc3f := hm1.2 c3
    refine x_aload_n 0 rfl rfl (dk zX6_isLane 5 rfl) ?_
    refine gf6_0 (r := 1) rfl k11 r11_0 (dk zX6_isLane 6 rfl) ?_
    refine x_iload_n 1 rfl rfl (dk zX6_isLane 7 rfl) ?_
    refine x_callV (as := [.int x1]) (o := 1) (ci := 3) (st := []) rfl okRX6_115 npX3_isWatched ⟨Nat.le_of_ble_eq_true rfl, Nat.le_of_ble_eq_true rfl⟩ k1 (by decide) rfl (Nat.le_of_ble_eq_true rfl) (dk zX6_isLane 8 rfl) ?_
    refine hc3f.mono ?_
    rintro _ m4 ⟨r5, rfl, hm4⟩
    show Ex E MX6_isLane Q 19 [(0, .ref 11), (1, .int x1)] [.int r5] m4
    refine x_if_ne (tgt := 26) (by decide) (dk zX6_isLane 9 rfl) (fun c6 => ?_) (fun c6 => ?_)
    · have hc6t := hm4.1 c6
      refine x_iconst (v := 0) (by decide) (dk zX6_isLane 12 rfl) ?_
      exact x_iret rfl rfl (dk zX6_isLane 13 rfl) hc6t
    · have hc6f := hm4.2 c6
      refine x_iconst (v := 1) (by decide) (dk zX6_isLane 10 rfl) ?_
      refine x_goto (tgt := 27) (by decide) (dk zX6_isLane 11 rfl) ?_
      exact x_iret rfl rfl (dk zX6_isLane 13 rfl) hc6f
set_option maxRecDepth 20000 in
set_option maxHeartbeats 2000000 in
theorem gX6_stepNearer_0 {E : EV} {Q : Po} {μ : Mem} {x1 : Int32} {x2 : Int32} (h : Sp E MJ7_fill_d0a16 [.ref 26, .long 0] μ (fun v m1 => v = none ∧ Ex E MX6_stepNearer Q 10 [(0, .ref 11), (1, .int x1), (2, .int x2), (3, .int 0)] [] m1)) : Ex E MX6_stepNearer Q 0 [(0, .ref 11), (1, .int x1), (2, .int x2)] [] μ := by
  refine x_aload_n 0 rfl rfl (dk zX6_stepNearer 0 rfl) ?_
  refine gf6_5 (r := 26) rfl k11 r11_5 (dk zX6_stepNearer 1 rfl) ?_
  refine x_lconst (v := 0) (by decide) (dk zX6_stepNearer 2 rfl) ?_
  refine x_callS (as := [.ref 26, .long 0]) (st := []) rfl okRX6_90 npJ7_fill_d0a16 ⟨Nat.le_of_ble_eq_true rfl, Nat.le_of_ble_eq_true rfl⟩ (Nat.le_of_ble_eq_true rfl) (dk zX6_stepNearer 3 rfl) ?_
  refine h.mono ?_
  rintro _ m1 ⟨rfl, hm1⟩
  show Ex E MX6_stepNearer Q 8 [(0, .ref 11), (1, .int x1), (2, .int x2)] [] m1
  refine x_iconst (v := 0) (by decide) (dk zX6_stepNearer 4 rfl) ?_
  refine x_istore_n (k := 3) (l' := [(0, .ref 11), (1, .int x1), (2, .int x2), (3, .int 0)]) [1, 2, 3, 0] rfl rfl (by decide) (dk zX6_stepNearer 5 rfl) ?_
  exact hm1
set_option maxRecDepth 20000 in
set_option maxHeartbeats 2000000 in
theorem gX6_stepNearer_10 {E : EV} {Q : Po} {μ : Mem} {x1 : Int32} {x2 : Int32} {x3 : Int32} (h : Sp E MX3_letters [.ref 1] μ (fun v m1 => ∃ r2 : Int32, v = some (.int r2) ∧ ((r2 ≤ x3 → Q none (mCJ m1 26 0 25 0 8)) ∧ (¬ r2 ≤ x3 → Sp E MX3_from [.ref 1, .int x3] m1 (fun v m4 => ∃ r5 : Int32, v = some (.int r5) ∧ Sp E MX3_to [.ref 1, .int x3] m4 (fun v m6 => ∃ r7 : Int32, v = some (.int r7) ∧ Sp E MX6_isLane [.ref 11, .int x3] m6 (fun v m8 => ∃ r9 : Int32, v = some (.int r9) ∧ ((r9 = 0 → ∀ v11 : Int32, v11 = x3 + 1 → Ex E MX6_stepNearer Q 10 [(0, .ref 11), (1, .int x1), (2, .int x2), (3, .int v11)] [] m8) ∧ (¬ r9 = 0 → Sp E MX0_between [.ref 12, .int r5, .int x1] m8 (fun v m12 => ∃ r13 : Int32, v = some (.int r13) ∧ ((¬ r13 = x2 → ∀ v15 : Int32, v15 = x3 + 1 → Ex E MX6_stepNearer Q 10 [(0, .ref 11), (1, .int x1), (2, .int x2), (3, .int v15)] [] m12) ∧ (r13 = x2 → Sp E MX0_between [.ref 12, .int r7, .int x1] m12 (fun v m16 => ∃ r17 : Int32, v = some (.int r17) ∧ ((¬ r17 = (x2 - 1) → ∀ v19 : Int32, v19 = x3 + 1 → Ex E MX6_stepNearer Q 10 [(0, .ref 11), (1, .int x1), (2, .int x2), (3, .int v19)] [] m16) ∧ (r17 = (x2 - 1) → vp_in r7 8 ∧ (vp_in r5 8 ∧ (∀ v22 : Int64, v22 = (m16.2 26 r7.toNatClampNeg) + (m16.2 25 r5.toNatClampNeg) → ∀ v23 : Int32, v23 = x3 + 1 → Ex E MX6_stepNearer Q 10 [(0, .ref 11), (1, .int x1), (2, .int x2), (3, .int v23)] [] (mJ m16 26 r7.toNatClampNeg v22)))))))))))))))))) : Ex E MX6_stepNearer Q 10 [(0, .ref 11), (1, .int x1), (2, .int x2), (3, .int x3)] [] μ := by
  refine x_iload_n 3 rfl rfl (dk zX6_stepNearer 6 rfl) ?_
  refine x_aload_n 0 rfl rfl (dk zX6_stepNearer 7 rfl) ?_
  refine gf6_0 (r := 1) rfl k11 r11_0 (dk zX6_stepNearer 8 rfl) ?_
  refine x_callV (as := []) (o := 1) (ci := 3) (st := [.int x3]) rfl okRX6_103 npX3_letters ⟨Nat.le_of_ble_eq_true rfl, Nat.le_of_ble_eq_true rfl⟩ k1 (by decide) rfl (Nat.le_of_ble_eq_true rfl) (dk zX6_stepNearer 9 rfl) ?_
  refine h.mono ?_
  rintro _ m1 ⟨r2, rfl, hm1⟩
  show Ex E MX6_stepNearer Q 18 [(0, .ref 11), (1, .int x1), (2, .int x2), (3, .int x3)] [.int r2, .int x3] m1
  refine x_icmp_ge (tgt := 102) (by decide) (dk zX6_stepNearer 10 rfl) (fun c3 => ?_) (fun c3 => ?_)
  · have hc3t := hm1.1 c3
    refine x_aload_n 0 rfl rfl (dk zX6_stepNearer 54 rfl) ?_
    refine gf6_5 (r := 26) rfl k11 r11_5 (dk zX6_stepNearer 55 rfl) ?_
    refine x_iconst (v := 0) (by decide) (dk zX6_stepNearer 56 rfl) ?_
    refine x_aload_n 0 rfl rfl (dk zX6_stepNearer 57 rfl) ?_
    refine gf6_4 (r := 25) rfl k11 r11_4 (dk zX6_stepNearer 58 rfl) ?_
    refine x_iconst (v := 0) (by decide) (dk zX6_stepNearer 59 rfl) ?_
    refine x_bipush (v := 8) (by decide) (dk zX6_stepNearer 60 rfl) ?_
    refine x_copyJ (sp := 0) (dp := 0) (n := 8) rfl wlRX6_109 wnat wsac wiac k26 k25 (by decide) (by decide) (by decide) (by rw [l26]; decide) (by rw [l25]; decide) (by decide) (by decide) (dk zX6_stepNearer 61 rfl) ?_
    show Ex E MX6_stepNearer Q 117 [(0, .ref 11), (1, .int x1), (2, .int x2), (3, .int x3)] [] (mCJ m1 26 0 25 0 8)
    exact x_vret rfl (dk zX6_stepNearer 62 rfl) hc3t
  · have hc3f := hm1.2 c3
    refine x_aload_n 0 rfl rfl (dk zX6_stepNearer 11 rfl) ?_
    refine gf6_0 (r := 1) rfl k11 r11_0 (dk zX6_stepNearer 12 rfl) ?_
    refine x_iload_n 3 rfl rfl (dk zX6_stepNearer 13 rfl) ?_
    refine x_callV (as := [.int x3]) (o := 1) (ci := 3) (st := []) rfl okRX6_66 npX3_from ⟨Nat.le_of_ble_eq_true rfl, Nat.le_of_ble_eq_true rfl⟩ k1 (by decide) rfl (Nat.le_of_ble_eq_true rfl) (dk zX6_stepNearer 14 rfl) ?_
    refine hc3f.mono ?_
    rintro _ m4 ⟨r5, rfl, hm4⟩
    show Ex E MX6_stepNearer Q 29 [(0, .ref 11), (1, .int x1), (2, .int x2), (3, .int x3)] [.int r5] m4
    refine x_istoreG (l' := [(0, .ref 11), (1, .int x1), (2, .int x2), (3, .int x3), (4, .int r5)]) [1, 2, 3, 4, 0] rfl (by decide) (dk zX6_stepNearer 15 rfl) ?_
    refine x_aload_n 0 rfl rfl (dk zX6_stepNearer 16 rfl) ?_
    refine gf6_0 (r := 1) rfl k11 r11_0 (dk zX6_stepNearer 17 rfl) ?_
    refine x_iload_n 3 rfl rfl (dk zX6_stepNearer 18 rfl) ?_
    refine x_callV (as := [.int x3]) (o := 1) (ci := 3) (st := []) rfl okRX6_69 npX3_to ⟨Nat.le_of_ble_eq_true rfl, Nat.le_of_ble_eq_true rfl⟩ k1 (by decide) rfl (Nat.le_of_ble_eq_true rfl) (dk zX6_stepNearer 19 rfl) ?_
    refine hm4.mono ?_
    rintro _ m6 ⟨r7, rfl, hm6⟩
    show Ex E MX6_stepNearer Q 39 [(0, .ref 11), (1, .int x1), (2, .int x2), (3, .int x3), (4, .int r5)] [.int r7] m6
    refine x_istoreG (l' := [(0, .ref 11), (1, .int x1), (2, .int x2), (3, .int x3), (4, .int r5), (5, .int r7)]) [1, 2, 3, 4, 5, 0] rfl (by decide) (dk zX6_stepNearer 20 rfl) ?_
    refine x_aload_n 0 rfl rfl (dk zX6_stepNearer 21 rfl) ?_
    refine x_iload_n 3 rfl rfl (dk zX6_stepNearer 22 rfl) ?_
    refine x_callV (as := [.int x3]) (o := 11) (ci := 6) (st := []) rfl okRX6_106 npX6_isLane ⟨Nat.le_of_ble_eq_true rfl, Nat.le_of_ble_eq_true rfl⟩ k11 (by decide) rfl (Nat.le_of_ble_eq_true rfl) (dk zX6_stepNearer 23 rfl) ?_
    refine hm6.mono ?_
    rintro _ m8 ⟨r9, rfl, hm8⟩
    show Ex E MX6_stepNearer Q 46 [(0, .ref 11), (1, .int x1), (2, .int x2), (3, .int x3), (4, .int r5), (5, .int r7)] [.int r9] m8
    refine x_if_eq (tgt := 96) (by decide) (dk zX6_stepNearer 24 rfl) (fun c10 => ?_) (fun c10 => ?_)
    · have hc10t := hm8.1 c10
      obtain ⟨v11, ev11⟩ : ∃ y : Int32, y = x3 + 1 := ⟨_, rfl⟩
      have hv11 := hc10t v11 ev11
      refine x_iinc (v := v11) (l' := [(0, .ref 11), (1, .int x1), (2, .int x2), (3, .int v11), (4, .int r5), (5, .int r7)]) 3 rfl (by rw [ev11]; rfl) [1, 2, 3, 0, 4, 5] rfl (by decide) (dk zX6_stepNearer 52 rfl) ?_
      refine x_goto (tgt := 10) (by decide) (dk zX6_stepNearer 53 rfl) ?_
      exact x_sub [0, 1, 2, 3] rfl hv11
    · have hc10f := hm8.2 c10
      refine x_aload_n 0 rfl rfl (dk zX6_stepNearer 25 rfl) ?_
      refine gf6_1 (r := 12) rfl k11 r11_1 (dk zX6_stepNearer 26 rfl) ?_
      refine x_iload 4 rfl (dk zX6_stepNearer 27 rfl) ?_
      refine x_iload_n 1 rfl rfl (dk zX6_stepNearer 28 rfl) ?_
      refine x_callV (as := [.int r5, .int x1]) (o := 12) (ci := 0) (st := []) rfl okRX6_79 npX0_between ⟨Nat.le_of_ble_eq_true rfl, Nat.le_of_ble_eq_true rfl⟩ k12 (by decide) rfl (Nat.le_of_ble_eq_true rfl) (dk zX6_stepNearer 29 rfl) ?_
      refine hc10f.mono ?_
      rintro _ m12 ⟨r13, rfl, hm12⟩
      show Ex E MX6_stepNearer Q 59 [(0, .ref 11), (1, .int x1), (2, .int x2), (3, .int x3), (4, .int r5), (5, .int r7)] [.int r13] m12
      refine x_iload_n 2 rfl rfl (dk zX6_stepNearer 30 rfl) ?_
      refine x_icmp_ne (tgt := 96) (by decide) (dk zX6_stepNearer 31 rfl) (fun c14 => ?_) (fun c14 => ?_)
      · have hc14t := hm12.1 c14
        obtain ⟨v15, ev15⟩ : ∃ y : Int32, y = x3 + 1 := ⟨_, rfl⟩
        have hv15 := hc14t v15 ev15
        refine x_iinc (v := v15) (l' := [(0, .ref 11), (1, .int x1), (2, .int x2), (3, .int v15), (4, .int r5), (5, .int r7)]) 3 rfl (by rw [ev15]; rfl) [1, 2, 3, 0, 4, 5] rfl (by decide) (dk zX6_stepNearer 52 rfl) ?_
        refine x_goto (tgt := 10) (by decide) (dk zX6_stepNearer 53 rfl) ?_
        exact x_sub [0, 1, 2, 3] rfl hv15
      · have hc14f := hm12.2 c14
        refine x_aload_n 0 rfl rfl (dk zX6_stepNearer 32 rfl) ?_
        refine gf6_1 (r := 12) rfl k11 r11_1 (dk zX6_stepNearer 33 rfl) ?_
        refine x_iload 5 rfl (dk zX6_stepNearer 34 rfl) ?_
        refine x_iload_n 1 rfl rfl (dk zX6_stepNearer 35 rfl) ?_
        refine x_callV (as := [.int r7, .int x1]) (o := 12) (ci := 0) (st := []) rfl okRX6_79 npX0_between ⟨Nat.le_of_ble_eq_true rfl, Nat.le_of_ble_eq_true rfl⟩ k12 (by decide) rfl (Nat.le_of_ble_eq_true rfl) (dk zX6_stepNearer 36 rfl) ?_
        refine hc14f.mono ?_
        rintro _ m16 ⟨r17, rfl, hm16⟩
        show Ex E MX6_stepNearer Q 73 [(0, .ref 11), (1, .int x1), (2, .int x2), (3, .int x3), (4, .int r5), (5, .int r7)] [.int r17] m16
        refine x_iload_n 2 rfl rfl (dk zX6_stepNearer 37 rfl) ?_
        refine x_iconst (v := 1) (by decide) (dk zX6_stepNearer 38 rfl) ?_
        refine x_isub (dk zX6_stepNearer 39 rfl) ?_
        refine x_icmp_ne (tgt := 96) (by decide) (dk zX6_stepNearer 40 rfl) (fun c18 => ?_) (fun c18 => ?_)
        · have hc18t := hm16.1 c18
          obtain ⟨v19, ev19⟩ : ∃ y : Int32, y = x3 + 1 := ⟨_, rfl⟩
          have hv19 := hc18t v19 ev19
          refine x_iinc (v := v19) (l' := [(0, .ref 11), (1, .int x1), (2, .int x2), (3, .int v19), (4, .int r5), (5, .int r7)]) 3 rfl (by rw [ev19]; rfl) [1, 2, 3, 0, 4, 5] rfl (by decide) (dk zX6_stepNearer 52 rfl) ?_
          refine x_goto (tgt := 10) (by decide) (dk zX6_stepNearer 53 rfl) ?_
          exact x_sub [0, 1, 2, 3] rfl hv19
        · have hc18f := hm16.2 c18
          refine x_aload_n 0 rfl rfl (dk zX6_stepNearer 41 rfl) ?_
          refine gf6_5 (r := 26) rfl k11 r11_5 (dk zX6_stepNearer 42 rfl) ?_
          refine x_iload 5 rfl (dk zX6_stepNearer 43 rfl) ?_
          refine x_dup2ri (dk zX6_stepNearer 44 rfl) ?_
          have b20 := hc18f.1
          have hb20 := hc18f.2
          refine y_lald (j := r7.toNatClampNeg) k26 l26 b20 rfl (dk zX6_stepNearer 45 rfl) ?_
          refine x_aload_n 0 rfl rfl (dk zX6_stepNearer 46 rfl) ?_
          refine gf6_4 (r := 25) rfl k11 r11_4 (dk zX6_stepNearer 47 rfl) ?_
          refine x_iload 4 rfl (dk zX6_stepNearer 48 rfl) ?_
          have b21 := hb20.1
          have hb21 := hb20.2
          refine y_lald (j := r5.toNatClampNeg) k25 l25 b21 rfl (dk zX6_stepNearer 49 rfl) ?_
          refine x_ladd (dk zX6_stepNearer 50 rfl) ?_
          refine x_topl (fun v22 ev22 => ?_)
          have hv22 := hb21 v22 ev22
          refine y_last (j := r7.toNatClampNeg) k26 l26 b20 rfl (dk zX6_stepNearer 51 rfl) ?_
          obtain ⟨v23, ev23⟩ : ∃ y : Int32, y = x3 + 1 := ⟨_, rfl⟩
          have hv23 := hv22 v23 ev23
          refine x_iinc (v := v23) (l' := [(0, .ref 11), (1, .int x1), (2, .int x2), (3, .int v23), (4, .int r5), (5, .int r7)]) 3 rfl (by rw [ev23]; rfl) [1, 2, 3, 0, 4, 5] rfl (by decide) (dk zX6_stepNearer 52 rfl) ?_
          refine x_goto (tgt := 10) (by decide) (dk zX6_stepNearer 53 rfl) ?_
          exact x_sub [0, 1, 2, 3] rfl hv23
set_option maxRecDepth 20000 in
set_option maxHeartbeats 2000000 in
theorem gX6_laneWays_0 {E : EV} {Q : Po} {μ : Mem} {x1 : Int32} {x2 : Int32} (h : Sp E MJ7_fill_d0a16 [.ref 25, .long 0] μ (fun v m1 => v = none ∧ Sp E MX10_isTown [.int x1] m1 (fun v m2 => ∃ r3 : Int32, v = some (.int r3) ∧ ((r3 = 0 → Q (some (.long 0)) m2) ∧ (¬ r3 = 0 → Sp E MX10_isTown [.int x2] m2 (fun v m5 => ∃ r6 : Int32, v = some (.int r6) ∧ ((¬ r6 = 0 → vp_in x1 8 ∧ (Sp E MX0_between [.ref 12, .int x1, .int x2] (mJ m5 25 x1.toNatClampNeg 1) (fun v m9 => ∃ r10 : Int32, v = some (.int r10) ∧ Ex E MX6_laneWays Q 41 [(0, .ref 11), (1, .int x1), (2, .int x2), (3, .int r10)] [] m9))) ∧ (r6 = 0 → Q (some (.long 0)) m5)))))))) : Ex E MX6_laneWays Q 0 [(0, .ref 11), (1, .int x1), (2, .int x2)] [] μ := by
  refine x_aload_n 0 rfl rfl (dk zX6_laneWays 0 rfl) ?_
  refine gf6_4 (r := 25) rfl k11 r11_4 (dk zX6_laneWays 1 rfl) ?_
  refine x_lconst (v := 0) (by decide) (dk zX6_laneWays 2 rfl) ?_
  refine x_callS (as := [.ref 25, .long 0]) (st := []) rfl okRX6_90 npJ7_fill_d0a16 ⟨Nat.le_of_ble_eq_true rfl, Nat.le_of_ble_eq_true rfl⟩ (Nat.le_of_ble_eq_true rfl) (dk zX6_laneWays 3 rfl) ?_
  refine h.mono ?_
  rintro _ m1 ⟨rfl, hm1⟩
  show Ex E MX6_laneWays Q 8 [(0, .ref 11), (1, .int x1), (2, .int x2)] [] m1
  refine x_iload_n 1 rfl rfl (dk zX6_laneWays 4 rfl) ?_
  refine x_callSN (M' := MX10_isTown) (as := [.int x1]) (st := []) (own := RX6) (host := RX10) rfl (fun _ h => h.2.1) wcX10_isTown wsX10_isTown wi0 nh0.1 nh0.2 npX10_isTown ⟨Nat.le_of_ble_eq_true rfl, Nat.le_of_ble_eq_true rfl⟩ (Nat.le_of_ble_eq_true rfl) (dk zX6_laneWays 5 rfl) ?_
  refine hm1.mono ?_
  rintro _ m2 ⟨r3, rfl, hm2⟩
  show Ex E MX6_laneWays Q 12 [(0, .ref 11), (1, .int x1), (2, .int x2)] [.int r3] m2
  refine x_if_eq (tgt := 22) (by decide) (dk zX6_laneWays 6 rfl) (fun c4 => ?_) (fun c4 => ?_)
  · have hc4t := hm2.1 c4
    refine x_lconst (v := 0) (by decide) (dk zX6_laneWays 10 rfl) ?_
    exact x_lret rfl (dk zX6_laneWays 11 rfl) hc4t
  · have hc4f := hm2.2 c4
    refine x_iload_n 2 rfl rfl (dk zX6_laneWays 7 rfl) ?_
    refine x_callSN (M' := MX10_isTown) (as := [.int x2]) (st := []) (own := RX6) (host := RX10) rfl (fun _ h => h.2.1) wcX10_isTown wsX10_isTown wi0 nh0.1 nh0.2 npX10_isTown ⟨Nat.le_of_ble_eq_true rfl, Nat.le_of_ble_eq_true rfl⟩ (Nat.le_of_ble_eq_true rfl) (dk zX6_laneWays 8 rfl) ?_
    refine hc4f.mono ?_
    rintro _ m5 ⟨r6, rfl, hm5⟩
    show Ex E MX6_laneWays Q 19 [(0, .ref 11), (1, .int x1), (2, .int x2)] [.int r6] m5
    refine x_if_ne (tgt := 24) (by decide) (dk zX6_laneWays 9 rfl) (fun c7 => ?_) (fun c7 => ?_)
    · have hc7t := hm5.1 c7
      refine x_aload_n 0 rfl rfl (dk zX6_laneWays 12 rfl) ?_
      refine gf6_4 (r := 25) rfl k11 r11_4 (dk zX6_laneWays 13 rfl) ?_
      refine x_iload_n 1 rfl rfl (dk zX6_laneWays 14 rfl) ?_
      refine x_lconst (v := 1) (by decide) (dk zX6_laneWays 15 rfl) ?_
      have b8 := hc7t.1
      have hb8 := hc7t.2
      refine y_last (j := x1.toNatClampNeg) k25 l25 b8 rfl (dk zX6_laneWays 16 rfl) ?_
      refine x_aload_n 0 rfl rfl (dk zX6_laneWays 17 rfl) ?_
      refine gf6_1 (r := 12) rfl k11 r11_1 (dk zX6_laneWays 18 rfl) ?_
      refine x_iload_n 1 rfl rfl (dk zX6_laneWays 19 rfl) ?_
      refine x_iload_n 2 rfl rfl (dk zX6_laneWays 20 rfl) ?_
      refine x_callV (as := [.int x1, .int x2]) (o := 12) (ci := 0) (st := []) rfl okRX6_79 npX0_between ⟨Nat.le_of_ble_eq_true rfl, Nat.le_of_ble_eq_true rfl⟩ k12 (by decide) rfl (Nat.le_of_ble_eq_true rfl) (dk zX6_laneWays 21 rfl) ?_
      refine hb8.mono ?_
      rintro _ m9 ⟨r10, rfl, hm9⟩
      show Ex E MX6_laneWays Q 40 [(0, .ref 11), (1, .int x1), (2, .int x2)] [.int r10] m9
      refine x_istore_n (k := 3) (l' := [(0, .ref 11), (1, .int x1), (2, .int x2), (3, .int r10)]) [1, 2, 3, 0] rfl rfl (by decide) (dk zX6_laneWays 22 rfl) ?_
      exact hm9
    · have hc7f := hm5.2 c7
      refine x_lconst (v := 0) (by decide) (dk zX6_laneWays 10 rfl) ?_
      exact x_lret rfl (dk zX6_laneWays 11 rfl) hc7f
set_option maxRecDepth 20000 in
set_option maxHeartbeats 2000000 in
theorem gX6_laneWays_41 {E : EV} {Q : Po} {μ : Mem} {x1 : Int32} {x2 : Int32} {x3 : Int32} (h : ((x3 ≤ 0 → vp_in x2 8 ∧ (Q (some (.long (μ.2 25 x2.toNatClampNeg))) μ)) ∧ (¬ x3 ≤ 0 → Sp E MX6_stepNearer [.ref 11, .int x2, .int x3] μ (fun v m3 => v = none ∧ ∀ v4 : Int32, v4 = x3 + (-1) → Ex E MX6_laneWays Q 41 [(0, .ref 11), (1, .int x1), (2, .int x2), (3, .int v4)] [] m3)))) : Ex E MX6_laneWays Q 41 [(0, .ref 11), (1, .int x1), (2, .int x2), (3, .int x3)] [] μ := by
  refine x_iload_n 3 rfl rfl (dk zX6_laneWays 23 rfl) ?_
  refine x_if_le (tgt := 57) (by decide) (dk zX6_laneWays 24 rfl) (fun c1 => ?_) (fun c1 => ?_)
  · have hc1t := h.1 c1
    refine x_aload_n 0 rfl rfl (dk zX6_laneWays 31 rfl) ?_
    refine gf6_4 (r := 25) rfl k11 r11_4 (dk zX6_laneWays 32 rfl) ?_
    refine x_iload_n 2 rfl rfl (dk zX6_laneWays 33 rfl) ?_
    have b2 := hc1t.1
    have hb2 := hc1t.2
    refine y_lald (j := x2.toNatClampNeg) k25 l25 b2 rfl (dk zX6_laneWays 34 rfl) ?_
    exact x_lret rfl (dk zX6_laneWays 35 rfl) hb2
  · have hc1f := h.2 c1
    refine x_aload_n 0 rfl rfl (dk zX6_laneWays 25 rfl) ?_
    refine x_iload_n 2 rfl rfl (dk zX6_laneWays 26 rfl) ?_
    refine x_iload_n 3 rfl rfl (dk zX6_laneWays 27 rfl) ?_
    refine x_callV (as := [.int x2, .int x3]) (o := 11) (ci := 6) (st := []) rfl okRX6_99 npX6_stepNearer ⟨Nat.le_of_ble_eq_true rfl, Nat.le_of_ble_eq_true rfl⟩ k11 (by decide) rfl (Nat.le_of_ble_eq_true rfl) (dk zX6_laneWays 28 rfl) ?_
    refine hc1f.mono ?_
    rintro _ m3 ⟨rfl, hm3⟩
    show Ex E MX6_laneWays Q 51 [(0, .ref 11), (1, .int x1), (2, .int x2), (3, .int x3)] [] m3
    obtain ⟨v4, ev4⟩ : ∃ y : Int32, y = x3 + (-1) := ⟨_, rfl⟩
    have hv4 := hm3 v4 ev4
    refine x_iinc (v := v4) (l' := [(0, .ref 11), (1, .int x1), (2, .int x2), (3, .int v4)]) 3 rfl (by rw [ev4]; rfl) [1, 2, 3, 0] rfl (by decide) (dk zX6_laneWays 29 rfl) ?_
    refine x_goto (tgt := 41) (by decide) (dk zX6_laneWays 30 rfl) ?_
    exact hv4
set_option maxRecDepth 20000 in
set_option maxHeartbeats 2000000 in
theorem gX6_ways_0 {E : EV} {Q : Po} {μ : Mem} {x1 : Int32} {x2 : Int32} (h : Ex E MX6_ways Q 5 [(0, .ref 11), (1, .int x1), (2, .int x2), (3, .long 1), (5, .int 0)] [] μ) : Ex E MX6_ways Q 0 [(0, .ref 11), (1, .int x1), (2, .int x2)] [] μ := by
  refine x_lconst (v := 1) (by decide) (dk zX6_ways 0 rfl) ?_
  refine x_lstore_n (k := 3) (l' := [(0, .ref 11), (1, .int x1), (2, .int x2), (3, .long 1)]) [1, 2, 3, 0] rfl rfl (by decide) (dk zX6_ways 1 rfl) ?_
  refine x_iconst (v := 0) (by decide) (dk zX6_ways 2 rfl) ?_
  refine x_istoreG (l' := [(0, .ref 11), (1, .int x1), (2, .int x2), (3, .long 1), (5, .int 0)]) [1, 2, 3, 4, 0] rfl (by decide) (dk zX6_ways 3 rfl) ?_
  exact h
set_option maxRecDepth 20000 in
set_option maxHeartbeats 2000000 in
theorem gX6_ways_5 {E : EV} {Q : Po} {μ : Mem} {x1 : Int32} {x2 : Int32} {x3 : Int64} {x5 : Int32} (h : (((μ.1 11 3) < x5 → Q (some (.long x3)) μ) ∧ (¬ (μ.1 11 3) < x5 → Sp E MX6_origin [.ref 11, .int x5, .int x1] μ (fun v m2 => ∃ r3 : Int32, v = some (.int r3) ∧ Sp E MX6_goal [.ref 11, .int x5, .int x2] m2 (fun v m4 => ∃ r5 : Int32, v = some (.int r5) ∧ Sp E MX6_laneWays [.ref 11, .int r3, .int r5] m4 (fun v m6 => ∃ r7 : Int64, v = some (.long r7) ∧ ∀ v8 : Int64, v8 = x3 * r7 → ∀ v9 : Int32, v9 = x5 + 1 → Ex E MX6_ways Q 5 [(0, .ref 11), (1, .int x1), (2, .int x2), (3, .long v8), (5, .int v9)] [] m6)))))) : Ex E MX6_ways Q 5 [(0, .ref 11), (1, .int x1), (2, .int x2), (3, .long x3), (5, .int x5)] [] μ := by
  refine x_iload 4 rfl (dk zX6_ways 4 rfl) ?_
  refine x_aload_n 0 rfl rfl (dk zX6_ways 5 rfl) ?_
  refine gf6_3 rfl k11 (dk zX6_ways 6 rfl) ?_
  refine x_icmp_gt (tgt := 41) (by decide) (dk zX6_ways 7 rfl) (fun c1 => ?_) (fun c1 => ?_)
  · have hc1t := h.1 c1
    refine x_lload_n 3 rfl rfl (dk zX6_ways 23 rfl) ?_
    exact x_lret rfl (dk zX6_ways 24 rfl) hc1t
  · have hc1f := h.2 c1
    refine x_lload_n 3 rfl rfl (dk zX6_ways 8 rfl) ?_
    refine x_aload_n 0 rfl rfl (dk zX6_ways 9 rfl) ?_
    refine x_aload_n 0 rfl rfl (dk zX6_ways 10 rfl) ?_
    refine x_iload 4 rfl (dk zX6_ways 11 rfl) ?_
    refine x_iload_n 1 rfl rfl (dk zX6_ways 12 rfl) ?_
    refine x_callV (as := [.int x5, .int x1]) (o := 11) (ci := 6) (st := [.ref 11, .long x3]) rfl okRX6_72 npX6_origin ⟨Nat.le_of_ble_eq_true rfl, Nat.le_of_ble_eq_true rfl⟩ k11 (by decide) rfl (Nat.le_of_ble_eq_true rfl) (dk zX6_ways 13 rfl) ?_
    refine hc1f.mono ?_
    rintro _ m2 ⟨r3, rfl, hm2⟩
    show Ex E MX6_ways Q 23 [(0, .ref 11), (1, .int x1), (2, .int x2), (3, .long x3), (5, .int x5)] [.int r3, .ref 11, .long x3] m2
    refine x_aload_n 0 rfl rfl (dk zX6_ways 14 rfl) ?_
    refine x_iload 4 rfl (dk zX6_ways 15 rfl) ?_
    refine x_iload_n 2 rfl rfl (dk zX6_ways 16 rfl) ?_
    refine x_callV (as := [.int x5, .int x2]) (o := 11) (ci := 6) (st := [.int r3, .ref 11, .long x3]) rfl okRX6_76 npX6_goal ⟨Nat.le_of_ble_eq_true rfl, Nat.le_of_ble_eq_true rfl⟩ k11 (by decide) rfl (Nat.le_of_ble_eq_true rfl) (dk zX6_ways 17 rfl) ?_
    refine hm2.mono ?_
    rintro _ m4 ⟨r5, rfl, hm4⟩
    show Ex E MX6_ways Q 30 [(0, .ref 11), (1, .int x1), (2, .int x2), (3, .long x3), (5, .int x5)] [.int r5, .int r3, .ref 11, .long x3] m4
    refine x_callV (as := [.int r3, .int r5]) (o := 11) (ci := 6) (st := [.long x3]) rfl okRX6_86 npX6_laneWays ⟨Nat.le_of_ble_eq_true rfl, Nat.le_of_ble_eq_true rfl⟩ k11 (by decide) rfl (Nat.le_of_ble_eq_true rfl) (dk zX6_ways 18 rfl) ?_
    refine hm4.mono ?_
    rintro _ m6 ⟨r7, rfl, hm6⟩
    show Ex E MX6_ways Q 33 [(0, .ref 11), (1, .int x1), (2, .int x2), (3, .long x3), (5, .int x5)] [.long r7, .long x3] m6
    refine x_lmul (dk zX6_ways 19 rfl) ?_
    refine x_topl (fun v8 ev8 => ?_)
    have hv8 := hm6 v8 ev8
    refine x_lstore_n (k := 3) (l' := [(0, .ref 11), (1, .int x1), (2, .int x2), (3, .long v8), (5, .int x5)]) [1, 2, 3, 0, 4] rfl rfl (by decide) (dk zX6_ways 20 rfl) ?_
    obtain ⟨v9, ev9⟩ : ∃ y : Int32, y = x5 + 1 := ⟨_, rfl⟩
    have hv9 := hv8 v9 ev9
    refine x_iinc (v := v9) (l' := [(0, .ref 11), (1, .int x1), (2, .int x2), (3, .long v8), (5, .int v9)]) 4 rfl (by rw [ev9]; rfl) [1, 2, 3, 4, 0] rfl (by decide) (dk zX6_ways 21 rfl) ?_
    refine x_goto (tgt := 5) (by decide) (dk zX6_ways 22 rfl) ?_
    exact hv9
set_option maxRecDepth 20000 in
set_option maxHeartbeats 2000000 in
theorem gX6_leastNearer_0 {E : EV} {Q : Po} {μ : Mem} {x1 : Int32} {x2 : Int32} (h : Sp E MX0_between [.ref 12, .int x1, .int x2] μ (fun v m1 => ∃ r2 : Int32, v = some (.int r2) ∧ ∀ v3 : Int32, v3 = r2 - 1 → Ex E MX6_leastNearer Q 15 [(0, .ref 11), (1, .int x1), (2, .int x2), (3, .int v3), (4, .int 1)] [] m1)) : Ex E MX6_leastNearer Q 0 [(0, .ref 11), (1, .int x1), (2, .int x2)] [] μ := by
  refine x_aload_n 0 rfl rfl (dk zX6_leastNearer 0 rfl) ?_
  refine gf6_1 (r := 12) rfl k11 r11_1 (dk zX6_leastNearer 1 rfl) ?_
  refine x_iload_n 1 rfl rfl (dk zX6_leastNearer 2 rfl) ?_
  refine x_iload_n 2 rfl rfl (dk zX6_leastNearer 3 rfl) ?_
  refine x_callV (as := [.int x1, .int x2]) (o := 12) (ci := 0) (st := []) rfl okRX6_79 npX0_between ⟨Nat.le_of_ble_eq_true rfl, Nat.le_of_ble_eq_true rfl⟩ k12 (by decide) rfl (Nat.le_of_ble_eq_true rfl) (dk zX6_leastNearer 4 rfl) ?_
  refine h.mono ?_
  rintro _ m1 ⟨r2, rfl, hm1⟩
  show Ex E MX6_leastNearer Q 9 [(0, .ref 11), (1, .int x1), (2, .int x2)] [.int r2] m1
  refine x_iconst (v := 1) (by decide) (dk zX6_leastNearer 5 rfl) ?_
  refine x_isub (dk zX6_leastNearer 6 rfl) ?_
  refine x_topi (fun v3 ev3 => ?_)
  have hv3 := hm1 v3 ev3
  refine x_istore_n (k := 3) (l' := [(0, .ref 11), (1, .int x1), (2, .int x2), (3, .int v3)]) [1, 2, 3, 0] rfl rfl (by decide) (dk zX6_leastNearer 7 rfl) ?_
  refine x_iconst (v := 1) (by decide) (dk zX6_leastNearer 8 rfl) ?_
  refine x_istoreG (l' := [(0, .ref 11), (1, .int x1), (2, .int x2), (3, .int v3), (4, .int 1)]) [1, 2, 3, 4, 0] rfl (by decide) (dk zX6_leastNearer 9 rfl) ?_
  exact hv3
set_option maxRecDepth 20000 in
set_option maxHeartbeats 2000000 in
theorem gX6_leastNearer_15 {E : EV} {Q : Po} {μ : Mem} {x1 : Int32} {x2 : Int32} {x3 : Int32} {x4 : Int32} (h : ((x4 < 0 → Q (some (.int ((-1)))) μ) ∧ (¬ x4 < 0 → Ex E MX6_leastNearer Q 24 [(0, .ref 11), (1, .int x1), (2, .int x2), (3, .int x3), (4, .int x4), (5, .int x4)] [] μ))) : Ex E MX6_leastNearer Q 15 [(0, .ref 11), (1, .int x1), (2, .int x2), (3, .int x3), (4, .int x4)] [] μ := by
  refine x_iload 4 rfl (dk zX6_leastNearer 10 rfl) ?_
  refine x_if_lt (tgt := 94) (by decide) (dk zX6_leastNearer 11 rfl) (fun c1 => ?_) (fun c1 => ?_)
  · have hc1t := h.1 c1
    refine x_iconst (v := -1) (by decide) (dk zX6_leastNearer 45 rfl) ?_
    exact x_iret (ty := .int) rfl rfl (dk zX6_leastNearer 46 rfl) hc1t
  · have hc1f := h.2 c1
    refine x_iload 4 rfl (dk zX6_leastNearer 12 rfl) ?_
    refine x_istoreG (l' := [(0, .ref 11), (1, .int x1), (2, .int x2), (3, .int x3), (4, .int x4), (5, .int x4)]) [1, 2, 3, 4, 5, 0] rfl (by decide) (dk zX6_leastNearer 13 rfl) ?_
    exact hc1f
set_option maxRecDepth 20000 in
set_option maxHeartbeats 2000000 in
theorem gX6_leastNearer_24 {E : EV} {Q : Po} {μ : Mem} {x1 : Int32} {x2 : Int32} {x3 : Int32} {x4 : Int32} {x5 : Int32} (h : Sp E MX3_letters [.ref 1] μ (fun v m1 => ∃ r2 : Int32, v = some (.int r2) ∧ ((r2 ≤ x5 → ∀ v4 : Int32, v4 = x4 + (-1) → Ex E MX6_leastNearer Q 15 [(0, .ref 11), (1, .int x1), (2, .int x2), (3, .int x3), (4, .int v4)] [] m1) ∧ (¬ r2 ≤ x5 → Sp E MX6_isLane [.ref 11, .int x5] m1 (fun v m5 => ∃ r6 : Int32, v = some (.int r6) ∧ ((r6 = 0 → ∀ v8 : Int32, v8 = x5 + 2 → Ex E MX6_leastNearer Q 24 [(0, .ref 11), (1, .int x1), (2, .int x2), (3, .int x3), (4, .int x4), (5, .int v8)] [] m5) ∧ (¬ r6 = 0 → Sp E MX3_from [.ref 1, .int x5] m5 (fun v m9 => ∃ r10 : Int32, v = some (.int r10) ∧ ((¬ r10 = x1 → ∀ v12 : Int32, v12 = x5 + 2 → Ex E MX6_leastNearer Q 24 [(0, .ref 11), (1, .int x1), (2, .int x2), (3, .int x3), (4, .int x4), (5, .int v12)] [] m9) ∧ (r10 = x1 → Sp E MX3_to [.ref 1, .int x5] m9 (fun v m13 => ∃ r14 : Int32, v = some (.int r14) ∧ Sp E MX0_between [.ref 12, .int r14, .int x2] m13 (fun v m15 => ∃ r16 : Int32, v = some (.int r16) ∧ ((¬ r16 = x3 → ∀ v18 : Int32, v18 = x5 + 2 → Ex E MX6_leastNearer Q 24 [(0, .ref 11), (1, .int x1), (2, .int x2), (3, .int x3), (4, .int x4), (5, .int v18)] [] m15) ∧ (r16 = x3 → Q (some (.int x5)) m15)))))))))))))) : Ex E MX6_leastNearer Q 24 [(0, .ref 11), (1, .int x1), (2, .int x2), (3, .int x3), (4, .int x4), (5, .int x5)] [] μ := by
  refine x_iload 5 rfl (dk zX6_leastNearer 14 rfl) ?_
  refine x_aload_n 0 rfl rfl (dk zX6_leastNearer 15 rfl) ?_
  refine gf6_0 (r := 1) rfl k11 r11_0 (dk zX6_leastNearer 16 rfl) ?_
  refine x_callV (as := []) (o := 1) (ci := 3) (st := [.int x5]) rfl okRX6_103 npX3_letters ⟨Nat.le_of_ble_eq_true rfl, Nat.le_of_ble_eq_true rfl⟩ k1 (by decide) rfl (Nat.le_of_ble_eq_true rfl) (dk zX6_leastNearer 17 rfl) ?_
  refine h.mono ?_
  rintro _ m1 ⟨r2, rfl, hm1⟩
  show Ex E MX6_leastNearer Q 33 [(0, .ref 11), (1, .int x1), (2, .int x2), (3, .int x3), (4, .int x4), (5, .int x5)] [.int r2, .int x5] m1
  refine x_icmp_ge (tgt := 88) (by decide) (dk zX6_leastNearer 18 rfl) (fun c3 => ?_) (fun c3 => ?_)
  · have hc3t := hm1.1 c3
    obtain ⟨v4, ev4⟩ : ∃ y : Int32, y = x4 + (-1) := ⟨_, rfl⟩
    have hv4 := hc3t v4 ev4
    refine x_iinc (v := v4) (l' := [(0, .ref 11), (1, .int x1), (2, .int x2), (3, .int x3), (4, .int v4), (5, .int x5)]) 4 rfl (by rw [ev4]; rfl) [1, 2, 3, 4, 0, 5] rfl (by decide) (dk zX6_leastNearer 43 rfl) ?_
    refine x_goto (tgt := 15) (by decide) (dk zX6_leastNearer 44 rfl) ?_
    exact x_sub [0, 1, 2, 3, 4] rfl hv4
  · have hc3f := hm1.2 c3
    refine x_aload_n 0 rfl rfl (dk zX6_leastNearer 19 rfl) ?_
    refine x_iload 5 rfl (dk zX6_leastNearer 20 rfl) ?_
    refine x_callV (as := [.int x5]) (o := 11) (ci := 6) (st := []) rfl okRX6_106 npX6_isLane ⟨Nat.le_of_ble_eq_true rfl, Nat.le_of_ble_eq_true rfl⟩ k11 (by decide) rfl (Nat.le_of_ble_eq_true rfl) (dk zX6_leastNearer 21 rfl) ?_
    refine hc3f.mono ?_
    rintro _ m5 ⟨r6, rfl, hm5⟩
    show Ex E MX6_leastNearer Q 42 [(0, .ref 11), (1, .int x1), (2, .int x2), (3, .int x3), (4, .int x4), (5, .int x5)] [.int r6] m5
    refine x_if_eq (tgt := 82) (by decide) (dk zX6_leastNearer 22 rfl) (fun c7 => ?_) (fun c7 => ?_)
    · have hc7t := hm5.1 c7
      obtain ⟨v8, ev8⟩ : ∃ y : Int32, y = x5 + 2 := ⟨_, rfl⟩
      have hv8 := hc7t v8 ev8
      refine x_iinc (v := v8) (l' := [(0, .ref 11), (1, .int x1), (2, .int x2), (3, .int x3), (4, .int x4), (5, .int v8)]) 5 rfl (by rw [ev8]; rfl) [1, 2, 3, 4, 5, 0] rfl (by decide) (dk zX6_leastNearer 41 rfl) ?_
      refine x_goto (tgt := 24) (by decide) (dk zX6_leastNearer 42 rfl) ?_
      exact hv8
    · have hc7f := hm5.2 c7
      refine x_aload_n 0 rfl rfl (dk zX6_leastNearer 23 rfl) ?_
      refine gf6_0 (r := 1) rfl k11 r11_0 (dk zX6_leastNearer 24 rfl) ?_
      refine x_iload 5 rfl (dk zX6_leastNearer 25 rfl) ?_
      refine x_callV (as := [.int x5]) (o := 1) (ci := 3) (st := []) rfl okRX6_66 npX3_from ⟨Nat.le_of_ble_eq_true rfl, Nat.le_of_ble_eq_true rfl⟩ k1 (by decide) rfl (Nat.le_of_ble_eq_true rfl) (dk zX6_leastNearer 26 rfl) ?_
      refine hc7f.mono ?_
      rintro _ m9 ⟨r10, rfl, hm9⟩
      show Ex E MX6_leastNearer Q 54 [(0, .ref 11), (1, .int x1), (2, .int x2), (3, .int x3), (4, .int x4), (5, .int x5)] [.int r10] m9
      refine x_iload_n 1 rfl rfl (dk zX6_leastNearer 27 rfl) ?_
      refine x_icmp_ne (tgt := 82) (by decide) (dk zX6_leastNearer 28 rfl) (fun c11 => ?_) (fun c11 => ?_)
      · have hc11t := hm9.1 c11
        obtain ⟨v12, ev12⟩ : ∃ y : Int32, y = x5 + 2 := ⟨_, rfl⟩
        have hv12 := hc11t v12 ev12
        refine x_iinc (v := v12) (l' := [(0, .ref 11), (1, .int x1), (2, .int x2), (3, .int x3), (4, .int x4), (5, .int v12)]) 5 rfl (by rw [ev12]; rfl) [1, 2, 3, 4, 5, 0] rfl (by decide) (dk zX6_leastNearer 41 rfl) ?_
        refine x_goto (tgt := 24) (by decide) (dk zX6_leastNearer 42 rfl) ?_
        exact hv12
      · have hc11f := hm9.2 c11
        refine x_aload_n 0 rfl rfl (dk zX6_leastNearer 29 rfl) ?_
        refine gf6_1 (r := 12) rfl k11 r11_1 (dk zX6_leastNearer 30 rfl) ?_
        refine x_aload_n 0 rfl rfl (dk zX6_leastNearer 31 rfl) ?_
        refine gf6_0 (r := 1) rfl k11 r11_0 (dk zX6_leastNearer 32 rfl) ?_
        refine x_iload 5 rfl (dk zX6_leastNearer 33 rfl) ?_
        refine x_callV (as := [.int x5]) (o := 1) (ci := 3) (st := [.ref 12]) rfl okRX6_69 npX3_to ⟨Nat.le_of_ble_eq_true rfl, Nat.le_of_ble_eq_true rfl⟩ k1 (by decide) rfl (Nat.le_of_ble_eq_true rfl) (dk zX6_leastNearer 34 rfl) ?_
        refine hc11f.mono ?_
        rintro _ m13 ⟨r14, rfl, hm13⟩
        show Ex E MX6_leastNearer Q 71 [(0, .ref 11), (1, .int x1), (2, .int x2), (3, .int x3), (4, .int x4), (5, .int x5)] [.int r14, .ref 12] m13
        refine x_iload_n 2 rfl rfl (dk zX6_leastNearer 35 rfl) ?_
        refine x_callV (as := [.int r14, .int x2]) (o := 12) (ci := 0) (st := []) rfl okRX6_79 npX0_between ⟨Nat.le_of_ble_eq_true rfl, Nat.le_of_ble_eq_true rfl⟩ k12 (by decide) rfl (Nat.le_of_ble_eq_true rfl) (dk zX6_leastNearer 36 rfl) ?_
        refine hm13.mono ?_
        rintro _ m15 ⟨r16, rfl, hm15⟩
        show Ex E MX6_leastNearer Q 75 [(0, .ref 11), (1, .int x1), (2, .int x2), (3, .int x3), (4, .int x4), (5, .int x5)] [.int r16] m15
        refine x_iload_n 3 rfl rfl (dk zX6_leastNearer 37 rfl) ?_
        refine x_icmp_ne (tgt := 82) (by decide) (dk zX6_leastNearer 38 rfl) (fun c17 => ?_) (fun c17 => ?_)
        · have hc17t := hm15.1 c17
          obtain ⟨v18, ev18⟩ : ∃ y : Int32, y = x5 + 2 := ⟨_, rfl⟩
          have hv18 := hc17t v18 ev18
          refine x_iinc (v := v18) (l' := [(0, .ref 11), (1, .int x1), (2, .int x2), (3, .int x3), (4, .int x4), (5, .int v18)]) 5 rfl (by rw [ev18]; rfl) [1, 2, 3, 4, 5, 0] rfl (by decide) (dk zX6_leastNearer 41 rfl) ?_
          refine x_goto (tgt := 24) (by decide) (dk zX6_leastNearer 42 rfl) ?_
          exact hv18
        · have hc17f := hm15.2 c17
          refine x_iload 5 rfl (dk zX6_leastNearer 39 rfl) ?_
          exact x_iret (ty := .int) rfl rfl (dk zX6_leastNearer 40 rfl) hc17f
set_option maxRecDepth 20000 in
set_option maxHeartbeats 2000000 in
theorem gX6_leastLaneLetter_0 {E : EV} {Q : Po} {μ : Mem} {x1 : Int32} {x2 : Int32} {x3 : Int32} (h : Ex E MX6_leastLaneLetter Q 9 [(0, .ref 11), (1, .int x1), (2, .int x2), (3, .int x3), (4, .int x1), (5, .int ((-1))), (6, .int 0)] [] μ) : Ex E MX6_leastLaneLetter Q 0 [(0, .ref 11), (1, .int x1), (2, .int x2), (3, .int x3)] [] μ := by
  refine x_iload_n 1 rfl rfl (dk zX6_leastLaneLetter 0 rfl) ?_
  refine x_istoreG (l' := [(0, .ref 11), (1, .int x1), (2, .int x2), (3, .int x3), (4, .int x1)]) [1, 2, 3, 4, 0] rfl (by decide) (dk zX6_leastLaneLetter 1 rfl) ?_
  refine x_iconst (v := -1) (by decide) (dk zX6_leastLaneLetter 2 rfl) ?_
  refine x_istoreG (l' := [(0, .ref 11), (1, .int x1), (2, .int x2), (3, .int x3), (4, .int x1), (5, .int ((-1)))]) [1, 2, 3, 4, 5, 0] rfl (by decide) (dk zX6_leastLaneLetter 3 rfl) ?_
  refine x_iconst (v := 0) (by decide) (dk zX6_leastLaneLetter 4 rfl) ?_
  refine x_istoreG (l' := [(0, .ref 11), (1, .int x1), (2, .int x2), (3, .int x3), (4, .int x1), (5, .int ((-1))), (6, .int 0)]) [1, 2, 3, 4, 5, 6, 0] rfl (by decide) (dk zX6_leastLaneLetter 5 rfl) ?_
  exact h
set_option maxRecDepth 20000 in
set_option maxHeartbeats 2000000 in
theorem gX6_leastLaneLetter_9 {E : EV} {Q : Po} {μ : Mem} {x1 : Int32} {x2 : Int32} {x3 : Int32} {x4 : Int32} {x5 : Int32} {x6 : Int32} (h : ((x3 < x6 → Q (some (.int x5)) μ) ∧ (¬ x3 < x6 → Sp E MX6_leastNearer [.ref 11, .int x4, .int x2] μ (fun v m2 => ∃ r3 : Int32, v = some (.int r3) ∧ Sp E MX3_to [.ref 1, .int r3] m2 (fun v m4 => ∃ r5 : Int32, v = some (.int r5) ∧ ∀ v6 : Int32, v6 = x6 + 1 → Ex E MX6_leastLaneLetter Q 9 [(0, .ref 11), (1, .int x1), (2, .int x2), (3, .int x3), (4, .int r5), (5, .int r3), (6, .int v6)] [] m4))))) : Ex E MX6_leastLaneLetter Q 9 [(0, .ref 11), (1, .int x1), (2, .int x2), (3, .int x3), (4, .int x4), (5, .int x5), (6, .int x6)] [] μ := by
  refine x_iload 6 rfl (dk zX6_leastLaneLetter 6 rfl) ?_
  refine x_iload_n 3 rfl rfl (dk zX6_leastLaneLetter 7 rfl) ?_
  refine x_icmp_gt (tgt := 41) (by decide) (dk zX6_leastLaneLetter 8 rfl) (fun c1 => ?_) (fun c1 => ?_)
  · have hc1t := h.1 c1
    refine x_iload 5 rfl (dk zX6_leastLaneLetter 21 rfl) ?_
    exact x_iret (ty := .int) rfl rfl (dk zX6_leastLaneLetter 22 rfl) hc1t
  · have hc1f := h.2 c1
    refine x_aload_n 0 rfl rfl (dk zX6_leastLaneLetter 9 rfl) ?_
    refine x_iload 4 rfl (dk zX6_leastLaneLetter 10 rfl) ?_
    refine x_iload_n 2 rfl rfl (dk zX6_leastLaneLetter 11 rfl) ?_
    refine x_callV (as := [.int x4, .int x2]) (o := 11) (ci := 6) (st := []) rfl okRX6_122 npX6_leastNearer ⟨Nat.le_of_ble_eq_true rfl, Nat.le_of_ble_eq_true rfl⟩ k11 (by decide) rfl (Nat.le_of_ble_eq_true rfl) (dk zX6_leastLaneLetter 12 rfl) ?_
    refine hc1f.mono ?_
    rintro _ m2 ⟨r3, rfl, hm2⟩
    show Ex E MX6_leastLaneLetter Q 22 [(0, .ref 11), (1, .int x1), (2, .int x2), (3, .int x3), (4, .int x4), (5, .int x5), (6, .int x6)] [.int r3] m2
    refine x_istoreG (l' := [(0, .ref 11), (1, .int x1), (2, .int x2), (3, .int x3), (4, .int x4), (5, .int r3), (6, .int x6)]) [1, 2, 3, 4, 5, 0, 6] rfl (by decide) (dk zX6_leastLaneLetter 13 rfl) ?_
    refine x_aload_n 0 rfl rfl (dk zX6_leastLaneLetter 14 rfl) ?_
    refine gf6_0 (r := 1) rfl k11 r11_0 (dk zX6_leastLaneLetter 15 rfl) ?_
    refine x_iload 5 rfl (dk zX6_leastLaneLetter 16 rfl) ?_
    refine x_callV (as := [.int r3]) (o := 1) (ci := 3) (st := []) rfl okRX6_69 npX3_to ⟨Nat.le_of_ble_eq_true rfl, Nat.le_of_ble_eq_true rfl⟩ k1 (by decide) rfl (Nat.le_of_ble_eq_true rfl) (dk zX6_leastLaneLetter 17 rfl) ?_
    refine hm2.mono ?_
    rintro _ m4 ⟨r5, rfl, hm4⟩
    show Ex E MX6_leastLaneLetter Q 33 [(0, .ref 11), (1, .int x1), (2, .int x2), (3, .int x3), (4, .int x4), (5, .int r3), (6, .int x6)] [.int r5] m4
    refine x_istoreG (l' := [(0, .ref 11), (1, .int x1), (2, .int x2), (3, .int x3), (4, .int r5), (5, .int r3), (6, .int x6)]) [1, 2, 3, 4, 0, 5, 6] rfl (by decide) (dk zX6_leastLaneLetter 18 rfl) ?_
    obtain ⟨v6, ev6⟩ : ∃ y : Int32, y = x6 + 1 := ⟨_, rfl⟩
    have hv6 := hm4 v6 ev6
    refine x_iinc (v := v6) (l' := [(0, .ref 11), (1, .int x1), (2, .int x2), (3, .int x3), (4, .int r5), (5, .int r3), (6, .int v6)]) 6 rfl (by rw [ev6]; rfl) [1, 2, 3, 4, 5, 6, 0] rfl (by decide) (dk zX6_leastLaneLetter 19 rfl) ?_
    refine x_goto (tgt := 9) (by decide) (dk zX6_leastLaneLetter 20 rfl) ?_
    exact hv6
set_option maxRecDepth 20000 in
set_option maxHeartbeats 2000000 in
theorem gX6_leastLetter_0 {E : EV} {Q : Po} {μ : Mem} {x1 : Int32} {x2 : Int32} {x3 : Int32} (h : Ex E MX6_leastLetter Q 6 [(0, .ref 11), (1, .int x1), (2, .int x2), (3, .int x3), (4, .int x3), (5, .int 0)] [] μ) : Ex E MX6_leastLetter Q 0 [(0, .ref 11), (1, .int x1), (2, .int x2), (3, .int x3)] [] μ := by
  refine x_iload_n 3 rfl rfl (dk zX6_leastLetter 0 rfl) ?_
  refine x_istoreG (l' := [(0, .ref 11), (1, .int x1), (2, .int x2), (3, .int x3), (4, .int x3)]) [1, 2, 3, 4, 0] rfl (by decide) (dk zX6_leastLetter 1 rfl) ?_
  refine x_iconst (v := 0) (by decide) (dk zX6_leastLetter 2 rfl) ?_
  refine x_istoreG (l' := [(0, .ref 11), (1, .int x1), (2, .int x2), (3, .int x3), (4, .int x3), (5, .int 0)]) [1, 2, 3, 4, 5, 0] rfl (by decide) (dk zX6_leastLetter 3 rfl) ?_
  exact h
set_option maxRecDepth 20000 in
set_option maxHeartbeats 2000000 in
theorem gX6_leastLetter_6 {E : EV} {Q : Po} {μ : Mem} {x1 : Int32} {x2 : Int32} {x3 : Int32} {x4 : Int32} {x5 : Int32} (h : (((μ.1 11 3) < x5 → Q (some (.int ((-1)))) μ) ∧ (¬ (μ.1 11 3) < x5 → Sp E MX6_origin [.ref 11, .int x5, .int x1] μ (fun v m2 => ∃ r3 : Int32, v = some (.int r3) ∧ Sp E MX6_goal [.ref 11, .int x5, .int x2] m2 (fun v m4 => ∃ r5 : Int32, v = some (.int r5) ∧ Sp E MX0_between [.ref 12, .int r3, .int r5] m4 (fun v m6 => ∃ r7 : Int32, v = some (.int r7) ∧ ((r7 ≤ x4 → ((¬ x4 = r7 → ∀ v10 : Int32, v10 = x4 - (r7 + 1) → ∀ v11 : Int32, v11 = x5 + 1 → Ex E MX6_leastLetter Q 6 [(0, .ref 11), (1, .int x1), (2, .int x2), (3, .int x3), (4, .int v10), (5, .int v11)] [] m6) ∧ (x4 = r7 → Sp E MX6_needAt [.ref 11, .int x5] m6 (fun v m12 => ∃ r13 : Int32, v = some (.int r13) ∧ Q (some (.int r13)) m12)))) ∧ (¬ r7 ≤ x4 → Sp E MX6_leastLaneLetter [.ref 11, .int r3, .int r5, .int x4] m6 (fun v m14 => ∃ r15 : Int32, v = some (.int r15) ∧ Q (some (.int r15)) m14))))))))) : Ex E MX6_leastLetter Q 6 [(0, .ref 11), (1, .int x1), (2, .int x2), (3, .int x3), (4, .int x4), (5, .int x5)] [] μ := by
  refine x_iload 5 rfl (dk zX6_leastLetter 4 rfl) ?_
  refine x_aload_n 0 rfl rfl (dk zX6_leastLetter 5 rfl) ?_
  refine gf6_3 rfl k11 (dk zX6_leastLetter 6 rfl) ?_
  refine x_icmp_gt (tgt := 93) (by decide) (dk zX6_leastLetter 7 rfl) (fun c1 => ?_) (fun c1 => ?_)
  · have hc1t := h.1 c1
    refine x_iconst (v := -1) (by decide) (dk zX6_leastLetter 48 rfl) ?_
    exact x_iret (ty := .int) rfl rfl (dk zX6_leastLetter 49 rfl) hc1t
  · have hc1f := h.2 c1
    refine x_aload_n 0 rfl rfl (dk zX6_leastLetter 8 rfl) ?_
    refine x_iload 5 rfl (dk zX6_leastLetter 9 rfl) ?_
    refine x_iload_n 1 rfl rfl (dk zX6_leastLetter 10 rfl) ?_
    refine x_callV (as := [.int x5, .int x1]) (o := 11) (ci := 6) (st := []) rfl okRX6_72 npX6_origin ⟨Nat.le_of_ble_eq_true rfl, Nat.le_of_ble_eq_true rfl⟩ k11 (by decide) rfl (Nat.le_of_ble_eq_true rfl) (dk zX6_leastLetter 11 rfl) ?_
    refine hc1f.mono ?_
    rintro _ m2 ⟨r3, rfl, hm2⟩
    show Ex E MX6_leastLetter Q 22 [(0, .ref 11), (1, .int x1), (2, .int x2), (3, .int x3), (4, .int x4), (5, .int x5)] [.int r3] m2
    refine x_istoreG (l' := [(0, .ref 11), (1, .int x1), (2, .int x2), (3, .int x3), (4, .int x4), (5, .int x5), (6, .int r3)]) [1, 2, 3, 4, 5, 6, 0] rfl (by decide) (dk zX6_leastLetter 12 rfl) ?_
    refine x_aload_n 0 rfl rfl (dk zX6_leastLetter 13 rfl) ?_
    refine x_iload 5 rfl (dk zX6_leastLetter 14 rfl) ?_
    refine x_iload_n 2 rfl rfl (dk zX6_leastLetter 15 rfl) ?_
    refine x_callV (as := [.int x5, .int x2]) (o := 11) (ci := 6) (st := []) rfl okRX6_76 npX6_goal ⟨Nat.le_of_ble_eq_true rfl, Nat.le_of_ble_eq_true rfl⟩ k11 (by decide) rfl (Nat.le_of_ble_eq_true rfl) (dk zX6_leastLetter 16 rfl) ?_
    refine hm2.mono ?_
    rintro _ m4 ⟨r5, rfl, hm4⟩
    show Ex E MX6_leastLetter Q 31 [(0, .ref 11), (1, .int x1), (2, .int x2), (3, .int x3), (4, .int x4), (5, .int x5), (6, .int r3)] [.int r5] m4
    refine x_istoreG (l' := [(0, .ref 11), (1, .int x1), (2, .int x2), (3, .int x3), (4, .int x4), (5, .int x5), (6, .int r3), (7, .int r5)]) [1, 2, 3, 4, 5, 6, 7, 0] rfl (by decide) (dk zX6_leastLetter 17 rfl) ?_
    refine x_aload_n 0 rfl rfl (dk zX6_leastLetter 18 rfl) ?_
    refine gf6_1 (r := 12) rfl k11 r11_1 (dk zX6_leastLetter 19 rfl) ?_
    refine x_iload 6 rfl (dk zX6_leastLetter 20 rfl) ?_
    refine x_iload 7 rfl (dk zX6_leastLetter 21 rfl) ?_
    refine x_callV (as := [.int r3, .int r5]) (o := 12) (ci := 0) (st := []) rfl okRX6_79 npX0_between ⟨Nat.le_of_ble_eq_true rfl, Nat.le_of_ble_eq_true rfl⟩ k12 (by decide) rfl (Nat.le_of_ble_eq_true rfl) (dk zX6_leastLetter 22 rfl) ?_
    refine hm4.mono ?_
    rintro _ m6 ⟨r7, rfl, hm6⟩
    show Ex E MX6_leastLetter Q 44 [(0, .ref 11), (1, .int x1), (2, .int x2), (3, .int x3), (4, .int x4), (5, .int x5), (6, .int r3), (7, .int r5)] [.int r7] m6
    refine x_istoreG (l' := [(0, .ref 11), (1, .int x1), (2, .int x2), (3, .int x3), (4, .int x4), (5, .int x5), (6, .int r3), (7, .int r5), (8, .int r7)]) [1, 2, 3, 4, 5, 6, 7, 8, 0] rfl (by decide) (dk zX6_leastLetter 23 rfl) ?_
    refine x_iload 4 rfl (dk zX6_leastLetter 24 rfl) ?_
    refine x_iload 8 rfl (dk zX6_leastLetter 25 rfl) ?_
    refine x_icmp_ge (tgt := 64) (by decide) (dk zX6_leastLetter 26 rfl) (fun c8 => ?_) (fun c8 => ?_)
    · have hc8t := hm6.1 c8
      refine x_iload 4 rfl (dk zX6_leastLetter 33 rfl) ?_
      refine x_iload 8 rfl (dk zX6_leastLetter 34 rfl) ?_
      refine x_icmp_ne (tgt := 78) (by decide) (dk zX6_leastLetter 35 rfl) (fun c9 => ?_) (fun c9 => ?_)
      · have hc9t := hc8t.1 c9
        refine x_iload 4 rfl (dk zX6_leastLetter 40 rfl) ?_
        refine x_iload 8 rfl (dk zX6_leastLetter 41 rfl) ?_
        refine x_iconst (v := 1) (by decide) (dk zX6_leastLetter 42 rfl) ?_
        refine x_iadd (dk zX6_leastLetter 43 rfl) ?_
        refine x_isub (dk zX6_leastLetter 44 rfl) ?_
        refine x_topi (fun v10 ev10 => ?_)
        have hv10 := hc9t v10 ev10
        refine x_istoreG (l' := [(0, .ref 11), (1, .int x1), (2, .int x2), (3, .int x3), (4, .int v10), (5, .int x5), (6, .int r3), (7, .int r5), (8, .int r7)]) [1, 2, 3, 4, 0, 5, 6, 7, 8] rfl (by decide) (dk zX6_leastLetter 45 rfl) ?_
        obtain ⟨v11, ev11⟩ : ∃ y : Int32, y = x5 + 1 := ⟨_, rfl⟩
        have hv11 := hv10 v11 ev11
        refine x_iinc (v := v11) (l' := [(0, .ref 11), (1, .int x1), (2, .int x2), (3, .int x3), (4, .int v10), (5, .int v11), (6, .int r3), (7, .int r5), (8, .int r7)]) 5 rfl (by rw [ev11]; rfl) [1, 2, 3, 4, 5, 0, 6, 7, 8] rfl (by decide) (dk zX6_leastLetter 46 rfl) ?_
        refine x_goto (tgt := 6) (by decide) (dk zX6_leastLetter 47 rfl) ?_
        exact x_sub [0, 1, 2, 3, 4, 5] rfl hv11
      · have hc9f := hc8t.2 c9
        refine x_aload_n 0 rfl rfl (dk zX6_leastLetter 36 rfl) ?_
        refine x_iload 5 rfl (dk zX6_leastLetter 37 rfl) ?_
        refine x_callV (as := [.int x5]) (o := 11) (ci := 6) (st := []) rfl okRX6_63 npX6_needAt ⟨Nat.le_of_ble_eq_true rfl, Nat.le_of_ble_eq_true rfl⟩ k11 (by decide) rfl (Nat.le_of_ble_eq_true rfl) (dk zX6_leastLetter 38 rfl) ?_
        refine hc9f.mono ?_
        rintro _ m12 ⟨r13, rfl, hm12⟩
        show Ex E MX6_leastLetter Q 77 [(0, .ref 11), (1, .int x1), (2, .int x2), (3, .int x3), (4, .int x4), (5, .int x5), (6, .int r3), (7, .int r5), (8, .int r7)] [.int r13] m12
        exact x_iret (ty := .int) rfl rfl (dk zX6_leastLetter 39 rfl) hm12
    · have hc8f := hm6.2 c8
      refine x_aload_n 0 rfl rfl (dk zX6_leastLetter 27 rfl) ?_
      refine x_iload 6 rfl (dk zX6_leastLetter 28 rfl) ?_
      refine x_iload 7 rfl (dk zX6_leastLetter 29 rfl) ?_
      refine x_iload 4 rfl (dk zX6_leastLetter 30 rfl) ?_
      refine x_callV (as := [.int r3, .int r5, .int x4]) (o := 11) (ci := 6) (st := []) rfl okRX6_118 npX6_leastLaneLetter ⟨Nat.le_of_ble_eq_true rfl, Nat.le_of_ble_eq_true rfl⟩ k11 (by decide) rfl (Nat.le_of_ble_eq_true rfl) (dk zX6_leastLetter 31 rfl) ?_
      refine hc8f.mono ?_
      rintro _ m14 ⟨r15, rfl, hm14⟩
      show Ex E MX6_leastLetter Q 63 [(0, .ref 11), (1, .int x1), (2, .int x2), (3, .int x3), (4, .int x4), (5, .int x5), (6, .int r3), (7, .int r5), (8, .int r7)] [.int r15] m14
      exact x_iret (ty := .int) rfl rfl (dk zX6_leastLetter 32 rfl) hm14
set_option maxRecDepth 20000 in
set_option maxHeartbeats 2000000 in
theorem gX6_isChained_0 {E : EV} {Q : Po} {μ : Mem}  (h : Sp E MX6_needAt [.ref 11, .int 0] μ (fun v m1 => ∃ r2 : Int32, v = some (.int r2) ∧ Sp E MX3_from [.ref 1, .int r2] m1 (fun v m3 => ∃ r4 : Int32, v = some (.int r4) ∧ Sp E MX6_needAt [.ref 11, .int ((m3.1 11 3) - 1)] m3 (fun v m5 => ∃ r6 : Int32, v = some (.int r6) ∧ Sp E MX3_to [.ref 1, .int r6] m5 (fun v m7 => ∃ r8 : Int32, v = some (.int r8) ∧ Sp E MX6_gatesBetween [.ref 11, .int r4, .int r8] m7 (fun v m9 => ∃ r10 : Int32, v = some (.int r10) ∧ ((r10 = ((-1)) → Q (some (.int 0)) m9) ∧ (¬ r10 = ((-1)) → Q (some (.int 1)) m9)))))))) : Ex E MX6_isChained Q 0 [(0, .ref 11)] [] μ := by
  refine x_aload_n 0 rfl rfl (dk zX6_isChained 0 rfl) ?_
  refine x_aload_n 0 rfl rfl (dk zX6_isChained 1 rfl) ?_
  refine gf6_0 (r := 1) rfl k11 r11_0 (dk zX6_isChained 2 rfl) ?_
  refine x_aload_n 0 rfl rfl (dk zX6_isChained 3 rfl) ?_
  refine x_iconst (v := 0) (by decide) (dk zX6_isChained 4 rfl) ?_
  refine x_callV (as := [.int 0]) (o := 11) (ci := 6) (st := [.ref 1, .ref 11]) rfl okRX6_63 npX6_needAt ⟨Nat.le_of_ble_eq_true rfl, Nat.le_of_ble_eq_true rfl⟩ k11 (by decide) rfl (Nat.le_of_ble_eq_true rfl) (dk zX6_isChained 5 rfl) ?_
  refine h.mono ?_
  rintro _ m1 ⟨r2, rfl, hm1⟩
  show Ex E MX6_isChained Q 10 [(0, .ref 11)] [.int r2, .ref 1, .ref 11] m1
  refine x_callV (as := [.int r2]) (o := 1) (ci := 3) (st := [.ref 11]) rfl okRX6_66 npX3_from ⟨Nat.le_of_ble_eq_true rfl, Nat.le_of_ble_eq_true rfl⟩ k1 (by decide) rfl (Nat.le_of_ble_eq_true rfl) (dk zX6_isChained 6 rfl) ?_
  refine hm1.mono ?_
  rintro _ m3 ⟨r4, rfl, hm3⟩
  show Ex E MX6_isChained Q 13 [(0, .ref 11)] [.int r4, .ref 11] m3
  refine x_aload_n 0 rfl rfl (dk zX6_isChained 7 rfl) ?_
  refine gf6_0 (r := 1) rfl k11 r11_0 (dk zX6_isChained 8 rfl) ?_
  refine x_aload_n 0 rfl rfl (dk zX6_isChained 9 rfl) ?_
  refine x_aload_n 0 rfl rfl (dk zX6_isChained 10 rfl) ?_
  refine gf6_3 rfl k11 (dk zX6_isChained 11 rfl) ?_
  refine x_iconst (v := 1) (by decide) (dk zX6_isChained 12 rfl) ?_
  refine x_isub (dk zX6_isChained 13 rfl) ?_
  refine x_callV (as := [.int ((m3.1 11 3) - 1)]) (o := 11) (ci := 6) (st := [.ref 1, .int r4, .ref 11]) rfl okRX6_63 npX6_needAt ⟨Nat.le_of_ble_eq_true rfl, Nat.le_of_ble_eq_true rfl⟩ k11 (by decide) rfl (Nat.le_of_ble_eq_true rfl) (dk zX6_isChained 14 rfl) ?_
  refine hm3.mono ?_
  rintro _ m5 ⟨r6, rfl, hm5⟩
  show Ex E MX6_isChained Q 27 [(0, .ref 11)] [.int r6, .ref 1, .int r4, .ref 11] m5
  refine x_callV (as := [.int r6]) (o := 1) (ci := 3) (st := [.int r4, .ref 11]) rfl okRX6_69 npX3_to ⟨Nat.le_of_ble_eq_true rfl, Nat.le_of_ble_eq_true rfl⟩ k1 (by decide) rfl (Nat.le_of_ble_eq_true rfl) (dk zX6_isChained 15 rfl) ?_
  refine hm5.mono ?_
  rintro _ m7 ⟨r8, rfl, hm7⟩
  show Ex E MX6_isChained Q 30 [(0, .ref 11)] [.int r8, .int r4, .ref 11] m7
  refine x_callV (as := [.int r4, .int r8]) (o := 11) (ci := 6) (st := []) rfl okRX6_132 npX6_gatesBetween ⟨Nat.le_of_ble_eq_true rfl, Nat.le_of_ble_eq_true rfl⟩ k11 (by decide) rfl (Nat.le_of_ble_eq_true rfl) (dk zX6_isChained 16 rfl) ?_
  refine hm7.mono ?_
  rintro _ m9 ⟨r10, rfl, hm9⟩
  show Ex E MX6_isChained Q 33 [(0, .ref 11)] [.int r10] m9
  refine x_iconst (v := -1) (by decide) (dk zX6_isChained 17 rfl) ?_
  refine x_icmp_eq (tgt := 41) (by decide) (dk zX6_isChained 18 rfl) (fun c11 => ?_) (fun c11 => ?_)
  · have hc11t := hm9.1 c11
    refine x_iconst (v := 0) (by decide) (dk zX6_isChained 21 rfl) ?_
    exact x_iret rfl rfl (dk zX6_isChained 22 rfl) hc11t
  · have hc11f := hm9.2 c11
    refine x_iconst (v := 1) (by decide) (dk zX6_isChained 19 rfl) ?_
    refine x_goto (tgt := 42) (by decide) (dk zX6_isChained 20 rfl) ?_
    exact x_iret rfl rfl (dk zX6_isChained 22 rfl) hc11f
set_option maxRecDepth 20000 in
set_option maxHeartbeats 2000000 in
theorem gX6_starts_0 {E : EV} {Q : Po} {μ : Mem}  (h : ((¬ (μ.1 11 3) = 0 → Sp E MX6_isChained [.ref 11] μ (fun v m2 => ∃ r3 : Int32, v = some (.int r3) ∧ ((r3 = 0 → Q (some (.int 0)) m2) ∧ (¬ r3 = 0 → Sp E MX6_needAt [.ref 11, .int 0] m2 (fun v m5 => ∃ r6 : Int32, v = some (.int r6) ∧ Sp E MX3_from [.ref 1, .int r6] m5 (fun v m7 => ∃ r8 : Int32, v = some (.int r8) ∧ Sp E MX0_reachedFrom [.ref 12, .int r8] m7 (fun v m9 => ∃ r10 : Int32, v = some (.int r10) ∧ Q (some (.int r10)) m9))))))) ∧ ((μ.1 11 3) = 0 → Q (some (.int 255)) μ))) : Ex E MX6_starts Q 0 [(0, .ref 11)] [] μ := by
  refine x_aload_n 0 rfl rfl (dk zX6_starts 0 rfl) ?_
  refine gf6_3 rfl k11 (dk zX6_starts 1 rfl) ?_
  refine x_if_ne (tgt := 11) (by decide) (dk zX6_starts 2 rfl) (fun c1 => ?_) (fun c1 => ?_)
  · have hc1t := h.1 c1
    refine x_aload_n 0 rfl rfl (dk zX6_starts 5 rfl) ?_
    refine x_callV (as := []) (o := 11) (ci := 6) (st := []) rfl okRX6_125 npX6_isChained ⟨Nat.le_of_ble_eq_true rfl, Nat.le_of_ble_eq_true rfl⟩ k11 (by decide) rfl (Nat.le_of_ble_eq_true rfl) (dk zX6_starts 6 rfl) ?_
    refine hc1t.mono ?_
    rintro _ m2 ⟨r3, rfl, hm2⟩
    show Ex E MX6_starts Q 15 [(0, .ref 11)] [.int r3] m2
    refine x_if_eq (tgt := 40) (by decide) (dk zX6_starts 7 rfl) (fun c4 => ?_) (fun c4 => ?_)
    · have hc4t := hm2.1 c4
      refine x_iconst (v := 0) (by decide) (dk zX6_starts 18 rfl) ?_
      exact x_iret (ty := .int) rfl rfl (dk zX6_starts 19 rfl) hc4t
    · have hc4f := hm2.2 c4
      refine x_aload_n 0 rfl rfl (dk zX6_starts 8 rfl) ?_
      refine gf6_1 (r := 12) rfl k11 r11_1 (dk zX6_starts 9 rfl) ?_
      refine x_aload_n 0 rfl rfl (dk zX6_starts 10 rfl) ?_
      refine gf6_0 (r := 1) rfl k11 r11_0 (dk zX6_starts 11 rfl) ?_
      refine x_aload_n 0 rfl rfl (dk zX6_starts 12 rfl) ?_
      refine x_iconst (v := 0) (by decide) (dk zX6_starts 13 rfl) ?_
      refine x_callV (as := [.int 0]) (o := 11) (ci := 6) (st := [.ref 1, .ref 12]) rfl okRX6_63 npX6_needAt ⟨Nat.le_of_ble_eq_true rfl, Nat.le_of_ble_eq_true rfl⟩ k11 (by decide) rfl (Nat.le_of_ble_eq_true rfl) (dk zX6_starts 14 rfl) ?_
      refine hc4f.mono ?_
      rintro _ m5 ⟨r6, rfl, hm5⟩
      show Ex E MX6_starts Q 31 [(0, .ref 11)] [.int r6, .ref 1, .ref 12] m5
      refine x_callV (as := [.int r6]) (o := 1) (ci := 3) (st := [.ref 12]) rfl okRX6_66 npX3_from ⟨Nat.le_of_ble_eq_true rfl, Nat.le_of_ble_eq_true rfl⟩ k1 (by decide) rfl (Nat.le_of_ble_eq_true rfl) (dk zX6_starts 15 rfl) ?_
      refine hm5.mono ?_
      rintro _ m7 ⟨r8, rfl, hm7⟩
      show Ex E MX6_starts Q 34 [(0, .ref 11)] [.int r8, .ref 12] m7
      refine x_callV (as := [.int r8]) (o := 12) (ci := 0) (st := []) rfl okRX6_129 npX0_reachedFrom ⟨Nat.le_of_ble_eq_true rfl, Nat.le_of_ble_eq_true rfl⟩ k12 (by decide) rfl (Nat.le_of_ble_eq_true rfl) (dk zX6_starts 16 rfl) ?_
      refine hm7.mono ?_
      rintro _ m9 ⟨r10, rfl, hm9⟩
      show Ex E MX6_starts Q 37 [(0, .ref 11)] [.int r10] m9
      refine x_goto (tgt := 41) (by decide) (dk zX6_starts 17 rfl) ?_
      exact x_iret (ty := .int) rfl rfl (dk zX6_starts 19 rfl) hm9
  · have hc1f := h.2 c1
    refine x_sipush (v := 255) (by decide) (dk zX6_starts 3 rfl) ?_
    exact x_iret (ty := .int) rfl rfl (dk zX6_starts 4 rfl) hc1f
set_option maxRecDepth 20000 in
set_option maxHeartbeats 2000000 in
theorem gX6_ends_0 {E : EV} {Q : Po} {μ : Mem}  (h : ((¬ (μ.1 11 3) = 0 → Sp E MX6_isChained [.ref 11] μ (fun v m2 => ∃ r3 : Int32, v = some (.int r3) ∧ ((r3 = 0 → Q (some (.int 0)) m2) ∧ (¬ r3 = 0 → Sp E MX6_needAt [.ref 11, .int ((m2.1 11 3) - 1)] m2 (fun v m5 => ∃ r6 : Int32, v = some (.int r6) ∧ Sp E MX3_to [.ref 1, .int r6] m5 (fun v m7 => ∃ r8 : Int32, v = some (.int r8) ∧ Sp E MX0_reachedFrom [.ref 12, .int r8] m7 (fun v m9 => ∃ r10 : Int32, v = some (.int r10) ∧ Q (some (.int r10)) m9))))))) ∧ ((μ.1 11 3) = 0 → Q (some (.int 255)) μ))) : Ex E MX6_ends Q 0 [(0, .ref 11)] [] μ := by
  refine x_aload_n 0 rfl rfl (dk zX6_ends 0 rfl) ?_
  refine gf6_3 rfl k11 (dk zX6_ends 1 rfl) ?_
  refine x_if_ne (tgt := 11) (by decide) (dk zX6_ends 2 rfl) (fun c1 => ?_) (fun c1 => ?_)
  · have hc1t := h.1 c1
    refine x_aload_n 0 rfl rfl (dk zX6_ends 5 rfl) ?_
    refine x_callV (as := []) (o := 11) (ci := 6) (st := []) rfl okRX6_125 npX6_isChained ⟨Nat.le_of_ble_eq_true rfl, Nat.le_of_ble_eq_true rfl⟩ k11 (by decide) rfl (Nat.le_of_ble_eq_true rfl) (dk zX6_ends 6 rfl) ?_
    refine hc1t.mono ?_
    rintro _ m2 ⟨r3, rfl, hm2⟩
    show Ex E MX6_ends Q 15 [(0, .ref 11)] [.int r3] m2
    refine x_if_eq (tgt := 45) (by decide) (dk zX6_ends 7 rfl) (fun c4 => ?_) (fun c4 => ?_)
    · have hc4t := hm2.1 c4
      refine x_iconst (v := 0) (by decide) (dk zX6_ends 21 rfl) ?_
      exact x_iret (ty := .int) rfl rfl (dk zX6_ends 22 rfl) hc4t
    · have hc4f := hm2.2 c4
      refine x_aload_n 0 rfl rfl (dk zX6_ends 8 rfl) ?_
      refine gf6_1 (r := 12) rfl k11 r11_1 (dk zX6_ends 9 rfl) ?_
      refine x_aload_n 0 rfl rfl (dk zX6_ends 10 rfl) ?_
      refine gf6_0 (r := 1) rfl k11 r11_0 (dk zX6_ends 11 rfl) ?_
      refine x_aload_n 0 rfl rfl (dk zX6_ends 12 rfl) ?_
      refine x_aload_n 0 rfl rfl (dk zX6_ends 13 rfl) ?_
      refine gf6_3 rfl k11 (dk zX6_ends 14 rfl) ?_
      refine x_iconst (v := 1) (by decide) (dk zX6_ends 15 rfl) ?_
      refine x_isub (dk zX6_ends 16 rfl) ?_
      refine x_callV (as := [.int ((m2.1 11 3) - 1)]) (o := 11) (ci := 6) (st := [.ref 1, .ref 12]) rfl okRX6_63 npX6_needAt ⟨Nat.le_of_ble_eq_true rfl, Nat.le_of_ble_eq_true rfl⟩ k11 (by decide) rfl (Nat.le_of_ble_eq_true rfl) (dk zX6_ends 17 rfl) ?_
      refine hc4f.mono ?_
      rintro _ m5 ⟨r6, rfl, hm5⟩
      show Ex E MX6_ends Q 36 [(0, .ref 11)] [.int r6, .ref 1, .ref 12] m5
      refine x_callV (as := [.int r6]) (o := 1) (ci := 3) (st := [.ref 12]) rfl okRX6_69 npX3_to ⟨Nat.le_of_ble_eq_true rfl, Nat.le_of_ble_eq_true rfl⟩ k1 (by decide) rfl (Nat.le_of_ble_eq_true rfl) (dk zX6_ends 18 rfl) ?_
      refine hm5.mono ?_
      rintro _ m7 ⟨r8, rfl, hm7⟩
      show Ex E MX6_ends Q 39 [(0, .ref 11)] [.int r8, .ref 12] m7
      refine x_callV (as := [.int r8]) (o := 12) (ci := 0) (st := []) rfl okRX6_129 npX0_reachedFrom ⟨Nat.le_of_ble_eq_true rfl, Nat.le_of_ble_eq_true rfl⟩ k12 (by decide) rfl (Nat.le_of_ble_eq_true rfl) (dk zX6_ends 19 rfl) ?_
      refine hm7.mono ?_
      rintro _ m9 ⟨r10, rfl, hm9⟩
      show Ex E MX6_ends Q 42 [(0, .ref 11)] [.int r10] m9
      refine x_goto (tgt := 46) (by decide) (dk zX6_ends 20 rfl) ?_
      exact x_iret (ty := .int) rfl rfl (dk zX6_ends 22 rfl) hm9
  · have hc1f := h.2 c1
    refine x_sipush (v := 255) (by decide) (dk zX6_ends 3 rfl) ?_
    exact x_iret (ty := .int) rfl rfl (dk zX6_ends 4 rfl) hc1f
set_option maxRecDepth 20000 in
set_option maxHeartbeats 2000000 in
theorem gX9_joinTowns_0 {E : EV} {Q : Po} {μ : Mem}  (h : Sp E MX3_openLanes [.ref 1] μ (fun v m1 => ∃ r2 : Int32, v = some (.int r2) ∧ Sp E MX0_measure [.ref 43, .ref 1, .int r2] m1 (fun v m3 => v = none ∧ Ex E MX9_joinTowns Q 20 [(0, .ref 42), (1, .int 0)] [] m3))) : Ex E MX9_joinTowns Q 0 [(0, .ref 42)] [] μ := by
  refine x_aload_n 0 rfl rfl (dk zX9_joinTowns 0 rfl) ?_
  refine gf9_1 (r := 43) rfl k42 r42_1 (dk zX9_joinTowns 1 rfl) ?_
  refine x_aload_n 0 rfl rfl (dk zX9_joinTowns 2 rfl) ?_
  refine gf9_0 (r := 1) rfl k42 r42_0 (dk zX9_joinTowns 3 rfl) ?_
  refine x_aload_n 0 rfl rfl (dk zX9_joinTowns 4 rfl) ?_
  refine gf9_0 (r := 1) rfl k42 r42_0 (dk zX9_joinTowns 5 rfl) ?_
  refine x_callV (as := []) (o := 1) (ci := 3) (st := [.ref 1, .ref 43]) rfl okRX9_84 npX3_openLanes ⟨Nat.le_of_ble_eq_true rfl, Nat.le_of_ble_eq_true rfl⟩ k1 (by decide) rfl (Nat.le_of_ble_eq_true rfl) (dk zX9_joinTowns 6 rfl) ?_
  refine h.mono ?_
  rintro _ m1 ⟨r2, rfl, hm1⟩
  show Ex E MX9_joinTowns Q 15 [(0, .ref 42)] [.int r2, .ref 1, .ref 43] m1
  refine x_callV (as := [.ref 1, .int r2]) (o := 43) (ci := 0) (st := []) rfl okRX9_87 npX0_measure ⟨Nat.le_of_ble_eq_true rfl, Nat.le_of_ble_eq_true rfl⟩ k43 (by decide) rfl (Nat.le_of_ble_eq_true rfl) (dk zX9_joinTowns 7 rfl) ?_
  refine hm1.mono ?_
  rintro _ m3 ⟨rfl, hm3⟩
  show Ex E MX9_joinTowns Q 18 [(0, .ref 42)] [] m3
  refine x_iconst (v := 0) (by decide) (dk zX9_joinTowns 8 rfl) ?_
  refine x_istore_n (k := 1) (l' := [(0, .ref 42), (1, .int 0)]) [1, 0] rfl rfl (by decide) (dk zX9_joinTowns 9 rfl) ?_
  exact hm3
set_option maxRecDepth 20000 in
set_option maxHeartbeats 2000000 in
theorem gX9_joinTowns_20 {E : EV} {Q : Po} {μ : Mem} {x1 : Int32} (h : ((8 ≤ x1 → Q none μ) ∧ (¬ 8 ≤ x1 → Sp E MX0_reachedFrom [.ref 43, .int x1] μ (fun v m2 => ∃ r3 : Int32, v = some (.int r3) ∧ vp_in x1 8 ∧ (∀ v5 : Int32, v5 = x1 + 1 → Ex E MX9_joinTowns Q 20 [(0, .ref 42), (1, .int v5)] [] (mI m2 55 x1.toNatClampNeg r3)))))) : Ex E MX9_joinTowns Q 20 [(0, .ref 42), (1, .int x1)] [] μ := by
  refine x_iload_n 1 rfl rfl (dk zX9_joinTowns 10 rfl) ?_
  refine x_bipush (v := 8) (by decide) (dk zX9_joinTowns 11 rfl) ?_
  refine x_icmp_ge (tgt := 46) (by decide) (dk zX9_joinTowns 12 rfl) (fun c1 => ?_) (fun c1 => ?_)
  · have hc1t := h.1 c1
    exact x_vret rfl (dk zX9_joinTowns 23 rfl) hc1t
  · have hc1f := h.2 c1
    refine x_aload_n 0 rfl rfl (dk zX9_joinTowns 13 rfl) ?_
    refine gf9_2 (r := 55) rfl k42 r42_2 (dk zX9_joinTowns 14 rfl) ?_
    refine x_iload_n 1 rfl rfl (dk zX9_joinTowns 15 rfl) ?_
    refine x_aload_n 0 rfl rfl (dk zX9_joinTowns 16 rfl) ?_
    refine gf9_1 (r := 43) rfl k42 r42_1 (dk zX9_joinTowns 17 rfl) ?_
    refine x_iload_n 1 rfl rfl (dk zX9_joinTowns 18 rfl) ?_
    refine x_callV (as := [.int x1]) (o := 43) (ci := 0) (st := [.int x1, .ref 55]) rfl okRX9_91 npX0_reachedFrom ⟨Nat.le_of_ble_eq_true rfl, Nat.le_of_ble_eq_true rfl⟩ k43 (by decide) rfl (Nat.le_of_ble_eq_true rfl) (dk zX9_joinTowns 19 rfl) ?_
    refine hc1f.mono ?_
    rintro _ m2 ⟨r3, rfl, hm2⟩
    show Ex E MX9_joinTowns Q 39 [(0, .ref 42), (1, .int x1)] [.int r3, .int x1, .ref 55] m2
    have b4 := hm2.1
    have hb4 := hm2.2
    refine y_iast (j := x1.toNatClampNeg) k55 l55 b4 rfl (dk zX9_joinTowns 20 rfl) ?_
    obtain ⟨v5, ev5⟩ : ∃ y : Int32, y = x1 + 1 := ⟨_, rfl⟩
    have hv5 := hb4 v5 ev5
    refine x_iinc (v := v5) (l' := [(0, .ref 42), (1, .int v5)]) 1 rfl (by rw [ev5]; rfl) [1, 0] rfl (by decide) (dk zX9_joinTowns 21 rfl) ?_
    refine x_goto (tgt := 20) (by decide) (dk zX9_joinTowns 22 rfl) ?_
    exact hv5
set_option maxRecDepth 20000 in
set_option maxHeartbeats 2000000 in
theorem gX9_goOnByLanes_0 {E : EV} {Q : Po} {μ : Mem} {x1 : Nat} {x2 : Int32} (hk1 : kd x1 = 21) (hn1 : ln x1 = 104) (h : Sp E MX3_openLanes [.ref 1] μ (fun v m1 => ∃ r2 : Int32, v = some (.int r2) ∧ ∀ v3 : Int32, v3 = x2 * 8 → ∀ v4 : Int32, v4 = v3 - 8 → Ex E MX9_goOnByLanes Q 24 [(0, .ref 42), (1, .ref x1), (2, .int x2), (3, .int r2), (4, .int v3), (5, .int v4), (6, .int 0)] [] m1)) : Ex E MX9_goOnByLanes Q 0 [(0, .ref 42), (1, .ref x1), (2, .int x2)] [] μ := by
  refine x_aload_n 0 rfl rfl (dk zX9_goOnByLanes 0 rfl) ?_
  refine gf9_0 (r := 1) rfl k42 r42_0 (dk zX9_goOnByLanes 1 rfl) ?_
  refine x_callV (as := []) (o := 1) (ci := 3) (st := []) rfl okRX9_84 npX3_openLanes ⟨Nat.le_of_ble_eq_true rfl, Nat.le_of_ble_eq_true rfl⟩ k1 (by decide) rfl (Nat.le_of_ble_eq_true rfl) (dk zX9_goOnByLanes 2 rfl) ?_
  refine h.mono ?_
  rintro _ m1 ⟨r2, rfl, hm1⟩
  show Ex E MX9_goOnByLanes Q 7 [(0, .ref 42), (1, .ref x1), (2, .int x2)] [.int r2] m1
  refine x_istore_n (k := 3) (l' := [(0, .ref 42), (1, .ref x1), (2, .int x2), (3, .int r2)]) [1, 2, 3, 0] rfl rfl (by decide) (dk zX9_goOnByLanes 3 rfl) ?_
  refine x_iload_n 2 rfl rfl (dk zX9_goOnByLanes 4 rfl) ?_
  refine x_bipush (v := 8) (by decide) (dk zX9_goOnByLanes 5 rfl) ?_
  refine x_imul (dk zX9_goOnByLanes 6 rfl) ?_
  refine x_topi (fun v3 ev3 => ?_)
  have hv3 := hm1 v3 ev3
  refine x_istoreG (l' := [(0, .ref 42), (1, .ref x1), (2, .int x2), (3, .int r2), (4, .int v3)]) [1, 2, 3, 4, 0] rfl (by decide) (dk zX9_goOnByLanes 7 rfl) ?_
  refine x_iload 4 rfl (dk zX9_goOnByLanes 8 rfl) ?_
  refine x_bipush (v := 8) (by decide) (dk zX9_goOnByLanes 9 rfl) ?_
  refine x_isub (dk zX9_goOnByLanes 10 rfl) ?_
  refine x_topi (fun v4 ev4 => ?_)
  have hv4 := hv3 v4 ev4
  refine x_istoreG (l' := [(0, .ref 42), (1, .ref x1), (2, .int x2), (3, .int r2), (4, .int v3), (5, .int v4)]) [1, 2, 3, 4, 5, 0] rfl (by decide) (dk zX9_goOnByLanes 11 rfl) ?_
  refine x_iconst (v := 0) (by decide) (dk zX9_goOnByLanes 12 rfl) ?_
  refine x_istoreG (l' := [(0, .ref 42), (1, .ref x1), (2, .int x2), (3, .int r2), (4, .int v3), (5, .int v4), (6, .int 0)]) [1, 2, 3, 4, 5, 6, 0] rfl (by decide) (dk zX9_goOnByLanes 13 rfl) ?_
  exact hv4
set_option maxRecDepth 20000 in
set_option maxHeartbeats 2000000 in
theorem gX9_goOnByLanes_24 {E : EV} {Q : Po} {μ : Mem} {x1 : Nat} {x2 : Int32} {x3 : Int32} {x4 : Int32} {x5 : Int32} {x6 : Int32} (hk_x1 : kd x1 = 21) (hn_x1 : ln x1 = 104) (h : Sp E MX3_gatesTold [.ref 1] μ (fun v m1 => ∃ r2 : Int32, v = some (.int r2) ∧ ((r2 ≤ x6 → Q none m1) ∧ (¬ r2 ≤ x6 → ((x3 = 0 → Q none m1) ∧ (¬ x3 = 0 → ((¬ ((x3 >>> ((x6 : Int32) &&& 31)) &&& 1) = 1 → ∀ v6 : Int32, v6 = x6 + 1 → Ex E MX9_goOnByLanes Q 24 [(0, .ref 42), (1, .ref x1), (2, .int x2), (3, .int x3), (4, .int x4), (5, .int x5), (6, .int v6)] [] m1) ∧ (((x3 >>> ((x6 : Int32) &&& 31)) &&& 1) = 1 → Sp E MX3_from [.ref 1, .int (2 * x6)] m1 (fun v m7 => ∃ r8 : Int32, v = some (.int r8) ∧ Sp E MX3_to [.ref 1, .int (2 * x6)] m7 (fun v m9 => ∃ r10 : Int32, v = some (.int r10) ∧ vp_in (x4 + r10) 104 ∧ (vp_in (x5 + r8) 104 ∧ (∀ v13 : Int64, v13 = (m9.2 x1 ((x4 + r10).toNatClampNeg)) + (m9.2 x1 ((x5 + r8).toNatClampNeg)) → vp_in (x4 + r8) 104 ∧ (vp_in (x5 + r10) 104 ∧ (∀ v16 : Int64, v16 = ((mJ m9 x1 ((x4 + r10).toNatClampNeg) v13).2 x1 ((x4 + r8).toNatClampNeg)) + ((mJ m9 x1 ((x4 + r10).toNatClampNeg) v13).2 x1 ((x5 + r10).toNatClampNeg)) → ∀ v17 : Int32, v17 = x6 + 1 → Ex E MX9_goOnByLanes Q 24 [(0, .ref 42), (1, .ref x1), (2, .int x2), (3, .int x3), (4, .int x4), (5, .int x5), (6, .int v17)] [] (mJ (mJ m9 x1 ((x4 + r10).toNatClampNeg) v13) x1 ((x4 + r8).toNatClampNeg) v16))))))))))))))) : Ex E MX9_goOnByLanes Q 24 [(0, .ref 42), (1, .ref x1), (2, .int x2), (3, .int x3), (4, .int x4), (5, .int x5), (6, .int x6)] [] μ := by
  refine x_iload 6 rfl (dk zX9_goOnByLanes 14 rfl) ?_
  refine x_aload_n 0 rfl rfl (dk zX9_goOnByLanes 15 rfl) ?_
  refine gf9_0 (r := 1) rfl k42 r42_0 (dk zX9_goOnByLanes 16 rfl) ?_
  refine x_callV (as := []) (o := 1) (ci := 3) (st := [.int x6]) rfl okRX9_115 npX3_gatesTold ⟨Nat.le_of_ble_eq_true rfl, Nat.le_of_ble_eq_true rfl⟩ k1 (by decide) rfl (Nat.le_of_ble_eq_true rfl) (dk zX9_goOnByLanes 17 rfl) ?_
  refine h.mono ?_
  rintro _ m1 ⟨r2, rfl, hm1⟩
  show Ex E MX9_goOnByLanes Q 33 [(0, .ref 42), (1, .ref x1), (2, .int x2), (3, .int x3), (4, .int x4), (5, .int x5), (6, .int x6)] [.int r2, .int x6] m1
  refine x_icmp_ge (tgt := 116) (by decide) (dk zX9_goOnByLanes 18 rfl) (fun c3 => ?_) (fun c3 => ?_)
  · have hc3t := hm1.1 c3
    exact x_vret rfl (dk zX9_goOnByLanes 70 rfl) hc3t
  · have hc3f := hm1.2 c3
    refine x_iload_n 3 rfl rfl (dk zX9_goOnByLanes 19 rfl) ?_
    refine x_if_eq (tgt := 116) (by decide) (dk zX9_goOnByLanes 20 rfl) (fun c4 => ?_) (fun c4 => ?_)
    · have hc4t := hc3f.1 c4
      exact x_vret rfl (dk zX9_goOnByLanes 70 rfl) hc4t
    · have hc4f := hc3f.2 c4
      refine x_iload_n 3 rfl rfl (dk zX9_goOnByLanes 21 rfl) ?_
      refine x_iload 6 rfl (dk zX9_goOnByLanes 22 rfl) ?_
      refine x_ishr (dk zX9_goOnByLanes 23 rfl) ?_
      refine x_iconst (v := 1) (by decide) (dk zX9_goOnByLanes 24 rfl) ?_
      refine x_iand (dk zX9_goOnByLanes 25 rfl) ?_
      refine x_iconst (v := 1) (by decide) (dk zX9_goOnByLanes 26 rfl) ?_
      refine x_icmp_ne (tgt := 110) (by decide) (dk zX9_goOnByLanes 27 rfl) (fun c5 => ?_) (fun c5 => ?_)
      · have hc5t := hc4f.1 c5
        obtain ⟨v6, ev6⟩ : ∃ y : Int32, y = x6 + 1 := ⟨_, rfl⟩
        have hv6 := hc5t v6 ev6
        refine x_iinc (v := v6) (l' := [(0, .ref 42), (1, .ref x1), (2, .int x2), (3, .int x3), (4, .int x4), (5, .int x5), (6, .int v6)]) 6 rfl (by rw [ev6]; rfl) [1, 2, 3, 4, 5, 6, 0] rfl (by decide) (dk zX9_goOnByLanes 68 rfl) ?_
        refine x_goto (tgt := 24) (by decide) (dk zX9_goOnByLanes 69 rfl) ?_
        exact hv6
      · have hc5f := hc4f.2 c5
        refine x_aload_n 0 rfl rfl (dk zX9_goOnByLanes 28 rfl) ?_
        refine gf9_0 (r := 1) rfl k42 r42_0 (dk zX9_goOnByLanes 29 rfl) ?_
        refine x_iconst (v := 2) (by decide) (dk zX9_goOnByLanes 30 rfl) ?_
        refine x_iload 6 rfl (dk zX9_goOnByLanes 31 rfl) ?_
        refine x_imul (dk zX9_goOnByLanes 32 rfl) ?_
        refine x_callV (as := [.int (2 * x6)]) (o := 1) (ci := 3) (st := []) rfl okRX9_94 npX3_from ⟨Nat.le_of_ble_eq_true rfl, Nat.le_of_ble_eq_true rfl⟩ k1 (by decide) rfl (Nat.le_of_ble_eq_true rfl) (dk zX9_goOnByLanes 33 rfl) ?_
        refine hc5f.mono ?_
        rintro _ m7 ⟨r8, rfl, hm7⟩
        show Ex E MX9_goOnByLanes Q 61 [(0, .ref 42), (1, .ref x1), (2, .int x2), (3, .int x3), (4, .int x4), (5, .int x5), (6, .int x6)] [.int r8] m7
        refine x_istoreG (l' := [(0, .ref 42), (1, .ref x1), (2, .int x2), (3, .int x3), (4, .int x4), (5, .int x5), (6, .int x6), (7, .int r8)]) [1, 2, 3, 4, 5, 6, 7, 0] rfl (by decide) (dk zX9_goOnByLanes 34 rfl) ?_
        refine x_aload_n 0 rfl rfl (dk zX9_goOnByLanes 35 rfl) ?_
        refine gf9_0 (r := 1) rfl k42 r42_0 (dk zX9_goOnByLanes 36 rfl) ?_
        refine x_iconst (v := 2) (by decide) (dk zX9_goOnByLanes 37 rfl) ?_
        refine x_iload 6 rfl (dk zX9_goOnByLanes 38 rfl) ?_
        refine x_imul (dk zX9_goOnByLanes 39 rfl) ?_
        refine x_callV (as := [.int (2 * x6)]) (o := 1) (ci := 3) (st := []) rfl okRX9_81 npX3_to ⟨Nat.le_of_ble_eq_true rfl, Nat.le_of_ble_eq_true rfl⟩ k1 (by decide) rfl (Nat.le_of_ble_eq_true rfl) (dk zX9_goOnByLanes 40 rfl) ?_
        refine hm7.mono ?_
        rintro _ m9 ⟨r10, rfl, hm9⟩
        show Ex E MX9_goOnByLanes Q 74 [(0, .ref 42), (1, .ref x1), (2, .int x2), (3, .int x3), (4, .int x4), (5, .int x5), (6, .int x6), (7, .int r8)] [.int r10] m9
        refine x_istoreG (l' := [(0, .ref 42), (1, .ref x1), (2, .int x2), (3, .int x3), (4, .int x4), (5, .int x5), (6, .int x6), (7, .int r8), (8, .int r10)]) [1, 2, 3, 4, 5, 6, 7, 8, 0] rfl (by decide) (dk zX9_goOnByLanes 41 rfl) ?_
        refine x_aload_n 1 rfl rfl (dk zX9_goOnByLanes 42 rfl) ?_
        refine x_iload 4 rfl (dk zX9_goOnByLanes 43 rfl) ?_
        refine x_iload 8 rfl (dk zX9_goOnByLanes 44 rfl) ?_
        refine x_iadd (dk zX9_goOnByLanes 45 rfl) ?_
        refine x_dup2ri (dk zX9_goOnByLanes 46 rfl) ?_
        have b11 := hm9.1
        have hb11 := hm9.2
        refine y_lald (j := (x4 + r10).toNatClampNeg) hk_x1 hn_x1 b11 rfl (dk zX9_goOnByLanes 47 rfl) ?_
        refine x_aload_n 1 rfl rfl (dk zX9_goOnByLanes 48 rfl) ?_
        refine x_iload 5 rfl (dk zX9_goOnByLanes 49 rfl) ?_
        refine x_iload 7 rfl (dk zX9_goOnByLanes 50 rfl) ?_
        refine x_iadd (dk zX9_goOnByLanes 51 rfl) ?_
        have b12 := hb11.1
        have hb12 := hb11.2
        refine y_lald (j := (x5 + r8).toNatClampNeg) hk_x1 hn_x1 b12 rfl (dk zX9_goOnByLanes 52 rfl) ?_
        refine x_ladd (dk zX9_goOnByLanes 53 rfl) ?_
        refine x_topl (fun v13 ev13 => ?_)
        have hv13 := hb12 v13 ev13
        refine y_last (j := (x4 + r10).toNatClampNeg) hk_x1 hn_x1 b11 rfl (dk zX9_goOnByLanes 54 rfl) ?_
        refine x_aload_n 1 rfl rfl (dk zX9_goOnByLanes 55 rfl) ?_
        refine x_iload 4 rfl (dk zX9_goOnByLanes 56 rfl) ?_
        refine x_iload 7 rfl (dk zX9_goOnByLanes 57 rfl) ?_
        refine x_iadd (dk zX9_goOnByLanes 58 rfl) ?_
        refine x_dup2ri (dk zX9_goOnByLanes 59 rfl) ?_
        have b14 := hv13.1
        have hb14 := hv13.2
        refine y_lald (j := (x4 + r8).toNatClampNeg) hk_x1 hn_x1 b14 rfl (dk zX9_goOnByLanes 60 rfl) ?_
        refine x_aload_n 1 rfl rfl (dk zX9_goOnByLanes 61 rfl) ?_
        refine x_iload 5 rfl (dk zX9_goOnByLanes 62 rfl) ?_
        refine x_iload 8 rfl (dk zX9_goOnByLanes 63 rfl) ?_
        refine x_iadd (dk zX9_goOnByLanes 64 rfl) ?_
        have b15 := hb14.1
        have hb15 := hb14.2
        refine y_lald (j := (x5 + r10).toNatClampNeg) hk_x1 hn_x1 b15 rfl (dk zX9_goOnByLanes 65 rfl) ?_
        refine x_ladd (dk zX9_goOnByLanes 66 rfl) ?_
        refine x_topl (fun v16 ev16 => ?_)
        have hv16 := hb15 v16 ev16
        refine y_last (j := (x4 + r8).toNatClampNeg) hk_x1 hn_x1 b14 rfl (dk zX9_goOnByLanes 67 rfl) ?_
        obtain ⟨v17, ev17⟩ : ∃ y : Int32, y = x6 + 1 := ⟨_, rfl⟩
        have hv17 := hv16 v17 ev17
        refine x_iinc (v := v17) (l' := [(0, .ref 42), (1, .ref x1), (2, .int x2), (3, .int x3), (4, .int x4), (5, .int x5), (6, .int v17), (7, .int r8), (8, .int r10)]) 6 rfl (by rw [ev17]; rfl) [1, 2, 3, 4, 5, 6, 0, 7, 8] rfl (by decide) (dk zX9_goOnByLanes 68 rfl) ?_
        refine x_goto (tgt := 24) (by decide) (dk zX9_goOnByLanes 69 rfl) ?_
        exact x_sub [0, 1, 2, 3, 4, 5, 6] rfl hv17
set_option maxRecDepth 20000 in
set_option maxHeartbeats 2000000 in
theorem gX9_behindRounds_0 {E : EV} {Q : Po} {μ : Mem} {x1 : Nat} {x2 : Int32} {x3 : Int32} {x4 : Int32} (hk1 : kd x1 = 21) (hn1 : ln x1 = 104) (h : ((x2 = ((-1)) → Ex E MX9_behindRounds Q 50 [(0, .ref 42), (1, .ref x1), (2, .int x2), (3, .int x3), (4, .int x4), (5, .int 0), (6, .int ((-1))), (7, .long 0), (9, .int 2)] [] μ) ∧ (¬ x2 = ((-1)) → Sp E MX3_to [.ref 1, .int x2] μ (fun v m2 => ∃ r3 : Int32, v = some (.int r3) ∧ ((¬ r3 = x4 → Ex E MX9_behindRounds Q 50 [(0, .ref 42), (1, .ref x1), (2, .int x2), (3, .int x3), (4, .int x4), (5, .int 0), (6, .int ((-1))), (7, .long 0), (9, .int 2)] [] m2) ∧ (r3 = x4 → Sp E MX3_from [.ref 1, .int x2] m2 (fun v m5 => ∃ r6 : Int32, v = some (.int r6) ∧ Ex E MX9_behindRounds Q 50 [(0, .ref 42), (1, .ref x1), (2, .int x2), (3, .int x3), (4, .int x4), (5, .int 1), (6, .int r6), (7, .long 0), (9, .int 2)] [] m5))))))) : Ex E MX9_behindRounds Q 0 [(0, .ref 42), (1, .ref x1), (2, .int x2), (3, .int x3), (4, .int x4)] [] μ := by
  refine x_iload_n 2 rfl rfl (dk zX9_behindRounds 0 rfl) ?_
  refine x_iconst (v := -1) (by decide) (dk zX9_behindRounds 1 rfl) ?_
  refine x_icmp_eq (tgt := 22) (by decide) (dk zX9_behindRounds 2 rfl) (fun c1 => ?_) (fun c1 => ?_)
  · have hc1t := h.1 c1
    refine x_iconst (v := 0) (by decide) (dk zX9_behindRounds 11 rfl) ?_
    refine x_istoreG (l' := [(0, .ref 42), (1, .ref x1), (2, .int x2), (3, .int x3), (4, .int x4), (5, .int 0)]) [1, 2, 3, 4, 5, 0] rfl (by decide) (dk zX9_behindRounds 12 rfl) ?_
    refine x_iload 5 rfl (dk zX9_behindRounds 13 rfl) ?_
    refine x_if_eq (tgt := 41) (by decide) (dk zX9_behindRounds 14 rfl) (fun _ => ?_) (fun c => absurd c (by decide))
    refine x_iconst (v := -1) (by decide) (dk zX9_behindRounds 20 rfl) ?_
    refine x_istoreG (l' := [(0, .ref 42), (1, .ref x1), (2, .int x2), (3, .int x3), (4, .int x4), (5, .int 0), (6, .int ((-1)))]) [1, 2, 3, 4, 5, 6, 0] rfl (by decide) (dk zX9_behindRounds 21 rfl) ?_
    refine x_lconst (v := 0) (by decide) (dk zX9_behindRounds 22 rfl) ?_
    refine x_lstoreG (l' := [(0, .ref 42), (1, .ref x1), (2, .int x2), (3, .int x3), (4, .int x4), (5, .int 0), (6, .int ((-1))), (7, .long 0)]) [1, 2, 3, 4, 5, 6, 7, 0] rfl (by decide) (dk zX9_behindRounds 23 rfl) ?_
    refine x_iconst (v := 2) (by decide) (dk zX9_behindRounds 24 rfl) ?_
    refine x_istoreG (l' := [(0, .ref 42), (1, .ref x1), (2, .int x2), (3, .int x3), (4, .int x4), (5, .int 0), (6, .int ((-1))), (7, .long 0), (9, .int 2)]) [1, 2, 3, 4, 5, 6, 7, 8, 0] rfl (by decide) (dk zX9_behindRounds 25 rfl) ?_
    exact hc1t
  · have hc1f := h.2 c1
    refine x_aload_n 0 rfl rfl (dk zX9_behindRounds 3 rfl) ?_
    refine gf9_0 (r := 1) rfl k42 r42_0 (dk zX9_behindRounds 4 rfl) ?_
    refine x_iload_n 2 rfl rfl (dk zX9_behindRounds 5 rfl) ?_
    refine x_callV (as := [.int x2]) (o := 1) (ci := 3) (st := []) rfl okRX9_81 npX3_to ⟨Nat.le_of_ble_eq_true rfl, Nat.le_of_ble_eq_true rfl⟩ k1 (by decide) rfl (Nat.le_of_ble_eq_true rfl) (dk zX9_behindRounds 6 rfl) ?_
    refine hc1f.mono ?_
    rintro _ m2 ⟨r3, rfl, hm2⟩
    show Ex E MX9_behindRounds Q 13 [(0, .ref 42), (1, .ref x1), (2, .int x2), (3, .int x3), (4, .int x4)] [.int r3] m2
    refine x_iload 4 rfl (dk zX9_behindRounds 7 rfl) ?_
    refine x_icmp_ne (tgt := 22) (by decide) (dk zX9_behindRounds 8 rfl) (fun c4 => ?_) (fun c4 => ?_)
    · have hc4t := hm2.1 c4
      refine x_iconst (v := 0) (by decide) (dk zX9_behindRounds 11 rfl) ?_
      refine x_istoreG (l' := [(0, .ref 42), (1, .ref x1), (2, .int x2), (3, .int x3), (4, .int x4), (5, .int 0)]) [1, 2, 3, 4, 5, 0] rfl (by decide) (dk zX9_behindRounds 12 rfl) ?_
      refine x_iload 5 rfl (dk zX9_behindRounds 13 rfl) ?_
      refine x_if_eq (tgt := 41) (by decide) (dk zX9_behindRounds 14 rfl) (fun _ => ?_) (fun c => absurd c (by decide))
      refine x_iconst (v := -1) (by decide) (dk zX9_behindRounds 20 rfl) ?_
      refine x_istoreG (l' := [(0, .ref 42), (1, .ref x1), (2, .int x2), (3, .int x3), (4, .int x4), (5, .int 0), (6, .int ((-1)))]) [1, 2, 3, 4, 5, 6, 0] rfl (by decide) (dk zX9_behindRounds 21 rfl) ?_
      refine x_lconst (v := 0) (by decide) (dk zX9_behindRounds 22 rfl) ?_
      refine x_lstoreG (l' := [(0, .ref 42), (1, .ref x1), (2, .int x2), (3, .int x3), (4, .int x4), (5, .int 0), (6, .int ((-1))), (7, .long 0)]) [1, 2, 3, 4, 5, 6, 7, 0] rfl (by decide) (dk zX9_behindRounds 23 rfl) ?_
      refine x_iconst (v := 2) (by decide) (dk zX9_behindRounds 24 rfl) ?_
      refine x_istoreG (l' := [(0, .ref 42), (1, .ref x1), (2, .int x2), (3, .int x3), (4, .int x4), (5, .int 0), (6, .int ((-1))), (7, .long 0), (9, .int 2)]) [1, 2, 3, 4, 5, 6, 7, 8, 0] rfl (by decide) (dk zX9_behindRounds 25 rfl) ?_
      exact hc4t
    · have hc4f := hm2.2 c4
      refine x_iconst (v := 1) (by decide) (dk zX9_behindRounds 9 rfl) ?_
      refine x_goto (tgt := 23) (by decide) (dk zX9_behindRounds 10 rfl) ?_
      refine x_istoreG (l' := [(0, .ref 42), (1, .ref x1), (2, .int x2), (3, .int x3), (4, .int x4), (5, .int 1)]) [1, 2, 3, 4, 5, 0] rfl (by decide) (dk zX9_behindRounds 12 rfl) ?_
      refine x_iload 5 rfl (dk zX9_behindRounds 13 rfl) ?_
      refine x_if_eq (tgt := 41) (by decide) (dk zX9_behindRounds 14 rfl) (fun c => absurd c (by decide)) (fun _ => ?_)
      refine x_aload_n 0 rfl rfl (dk zX9_behindRounds 15 rfl) ?_
      refine gf9_0 (r := 1) rfl k42 r42_0 (dk zX9_behindRounds 16 rfl) ?_
      refine x_iload_n 2 rfl rfl (dk zX9_behindRounds 17 rfl) ?_
      refine x_callV (as := [.int x2]) (o := 1) (ci := 3) (st := []) rfl okRX9_94 npX3_from ⟨Nat.le_of_ble_eq_true rfl, Nat.le_of_ble_eq_true rfl⟩ k1 (by decide) rfl (Nat.le_of_ble_eq_true rfl) (dk zX9_behindRounds 18 rfl) ?_
      refine hc4f.mono ?_
      rintro _ m5 ⟨r6, rfl, hm5⟩
      show Ex E MX9_behindRounds Q 38 [(0, .ref 42), (1, .ref x1), (2, .int x2), (3, .int x3), (4, .int x4), (5, .int 1)] [.int r6] m5
      refine x_goto (tgt := 42) (by decide) (dk zX9_behindRounds 19 rfl) ?_
      refine x_istoreG (l' := [(0, .ref 42), (1, .ref x1), (2, .int x2), (3, .int x3), (4, .int x4), (5, .int 1), (6, .int r6)]) [1, 2, 3, 4, 5, 6, 0] rfl (by decide) (dk zX9_behindRounds 21 rfl) ?_
      refine x_lconst (v := 0) (by decide) (dk zX9_behindRounds 22 rfl) ?_
      refine x_lstoreG (l' := [(0, .ref 42), (1, .ref x1), (2, .int x2), (3, .int x3), (4, .int x4), (5, .int 1), (6, .int r6), (7, .long 0)]) [1, 2, 3, 4, 5, 6, 7, 0] rfl (by decide) (dk zX9_behindRounds 23 rfl) ?_
      refine x_iconst (v := 2) (by decide) (dk zX9_behindRounds 24 rfl) ?_
      refine x_istoreG (l' := [(0, .ref 42), (1, .ref x1), (2, .int x2), (3, .int x3), (4, .int x4), (5, .int 1), (6, .int r6), (7, .long 0), (9, .int 2)]) [1, 2, 3, 4, 5, 6, 7, 8, 0] rfl (by decide) (dk zX9_behindRounds 25 rfl) ?_
      exact hm5
set_option maxRecDepth 20000 in
set_option maxHeartbeats 2000000 in
theorem gX9_behindRounds_50 {E : EV} {Q : Po} {μ : Mem} {x1 : Nat} {x2 : Int32} {x3 : Int32} {x4 : Int32} {x5 : Int32} {x6 : Int32} {x7 : Int64} {x9 : Int32} (hk_x1 : kd x1 = 21) (hn_x1 : ln x1 = 104) (h : ((x3 < x9 → Q (some (.long x7)) μ) ∧ (¬ x3 < x9 → vp_in (((x3 - x9) * 8) + x4) 104 ∧ (∀ v3 : Int64, v3 = μ.2 x1 ((((x3 - x9) * 8) + x4).toNatClampNeg) → (((lg_cmp v3 0) = 0 → ∀ v5 : Int32, v5 = x9 + 1 → Ex E MX9_behindRounds Q 50 [(0, .ref 42), (1, .ref x1), (2, .int x2), (3, .int x3), (4, .int x4), (5, .int x5), (6, .int x6), (7, .long x7), (9, .int v5)] [] μ) ∧ (¬ (lg_cmp v3 0) = 0 → ((x5 = 0 → vp_in ((x9 * 8) + x4) 104 ∧ (∀ v8 : Int64, v8 = x7 + (v3 * ((μ.2 75 (((x9 * 8) + x4).toNatClampNeg)) - 0)) → ∀ v9 : Int32, v9 = x9 + 1 → Ex E MX9_behindRounds Q 50 [(0, .ref 42), (1, .ref x1), (2, .int x2), (3, .int x3), (4, .int x4), (5, .int x5), (6, .int x6), (7, .long v8), (9, .int v9)] [] μ)) ∧ (¬ x5 = 0 → vp_in (x2 ^^^ 1) 18 ∧ (vp_in (((x9 - 2) * 8) + x6) 104 ∧ (∀ v12 : Int64, v12 = μ.2 (57 + (x2 ^^^ 1).toNatClampNeg) ((((x9 - 2) * 8) + x6).toNatClampNeg) → vp_in ((x9 * 8) + x4) 104 ∧ (∀ v14 : Int64, v14 = x7 + (v3 * ((μ.2 75 (((x9 * 8) + x4).toNatClampNeg)) - v12)) → ∀ v15 : Int32, v15 = x9 + 1 → Ex E MX9_behindRounds Q 50 [(0, .ref 42), (1, .ref x1), (2, .int x2), (3, .int x3), (4, .int x4), (5, .int x5), (6, .int x6), (7, .long v14), (9, .int v15)] [] μ))))))))))) : Ex E MX9_behindRounds Q 50 [(0, .ref 42), (1, .ref x1), (2, .int x2), (3, .int x3), (4, .int x4), (5, .int x5), (6, .int x6), (7, .long x7), (9, .int x9)] [] μ := by
  refine x_iload 8 rfl (dk zX9_behindRounds 26 rfl) ?_
  refine x_iload_n 3 rfl rfl (dk zX9_behindRounds 27 rfl) ?_
  refine x_icmp_gt (tgt := 137) (by decide) (dk zX9_behindRounds 28 rfl) (fun c1 => ?_) (fun c1 => ?_)
  · have hc1t := h.1 c1
    refine x_lload 7 rfl (dk zX9_behindRounds 79 rfl) ?_
    exact x_lret rfl (dk zX9_behindRounds 80 rfl) hc1t
  · have hc1f := h.2 c1
    refine x_aload_n 1 rfl rfl (dk zX9_behindRounds 29 rfl) ?_
    refine x_iload_n 3 rfl rfl (dk zX9_behindRounds 30 rfl) ?_
    refine x_iload 8 rfl (dk zX9_behindRounds 31 rfl) ?_
    refine x_isub (dk zX9_behindRounds 32 rfl) ?_
    refine x_bipush (v := 8) (by decide) (dk zX9_behindRounds 33 rfl) ?_
    refine x_imul (dk zX9_behindRounds 34 rfl) ?_
    refine x_iload 4 rfl (dk zX9_behindRounds 35 rfl) ?_
    refine x_iadd (dk zX9_behindRounds 36 rfl) ?_
    have b2 := hc1f.1
    have hb2 := hc1f.2
    refine y_lald (j := (((x3 - x9) * 8) + x4).toNatClampNeg) hk_x1 hn_x1 b2 rfl (dk zX9_behindRounds 37 rfl) ?_
    refine x_topl (fun v3 ev3 => ?_)
    have hv3 := hb2 v3 ev3
    refine x_lstoreG (l' := [(0, .ref 42), (1, .ref x1), (2, .int x2), (3, .int x3), (4, .int x4), (5, .int x5), (6, .int x6), (7, .long x7), (9, .int x9), (10, .long v3)]) [1, 2, 3, 4, 5, 6, 7, 8, 9, 0] rfl (by decide) (dk zX9_behindRounds 38 rfl) ?_
    refine x_lload 9 rfl (dk zX9_behindRounds 39 rfl) ?_
    refine x_lconst (v := 0) (by decide) (dk zX9_behindRounds 40 rfl) ?_
    refine x_lcmp (dk zX9_behindRounds 41 rfl) ?_
    refine x_if_eq (tgt := 131) (by decide) (dk zX9_behindRounds 42 rfl) (fun c4 => ?_) (fun c4 => ?_)
    · have hc4t := hv3.1 c4
      obtain ⟨v5, ev5⟩ : ∃ y : Int32, y = x9 + 1 := ⟨_, rfl⟩
      have hv5 := hc4t v5 ev5
      refine x_iinc (v := v5) (l' := [(0, .ref 42), (1, .ref x1), (2, .int x2), (3, .int x3), (4, .int x4), (5, .int x5), (6, .int x6), (7, .long x7), (9, .int v5), (10, .long v3)]) 8 rfl (by rw [ev5]; rfl) [1, 2, 3, 4, 5, 6, 7, 8, 0, 9] rfl (by decide) (dk zX9_behindRounds 77 rfl) ?_
      refine x_goto (tgt := 50) (by decide) (dk zX9_behindRounds 78 rfl) ?_
      exact x_sub [0, 1, 2, 3, 4, 5, 6, 7, 8] rfl hv5
    · have hc4f := hv3.2 c4
      refine x_iload 5 rfl (dk zX9_behindRounds 43 rfl) ?_
      refine x_if_eq (tgt := 104) (by decide) (dk zX9_behindRounds 44 rfl) (fun c6 => ?_) (fun c6 => ?_)
      · have hc6t := hc4f.1 c6
        refine x_lconst (v := 0) (by decide) (dk zX9_behindRounds 60 rfl) ?_
        refine x_lstoreG (l' := [(0, .ref 42), (1, .ref x1), (2, .int x2), (3, .int x3), (4, .int x4), (5, .int x5), (6, .int x6), (7, .long x7), (9, .int x9), (10, .long v3), (12, .long 0)]) [1, 2, 3, 4, 5, 6, 7, 8, 9, 10, 0] rfl (by decide) (dk zX9_behindRounds 61 rfl) ?_
        refine x_lload 7 rfl (dk zX9_behindRounds 62 rfl) ?_
        refine x_lload 9 rfl (dk zX9_behindRounds 63 rfl) ?_
        refine x_aload_n 0 rfl rfl (dk zX9_behindRounds 64 rfl) ?_
        refine gf9_4 (r := 75) rfl k42 r42_4 (dk zX9_behindRounds 65 rfl) ?_
        refine x_iload 8 rfl (dk zX9_behindRounds 66 rfl) ?_
        refine x_bipush (v := 8) (by decide) (dk zX9_behindRounds 67 rfl) ?_
        refine x_imul (dk zX9_behindRounds 68 rfl) ?_
        refine x_iload 4 rfl (dk zX9_behindRounds 69 rfl) ?_
        refine x_iadd (dk zX9_behindRounds 70 rfl) ?_
        have b7 := hc6t.1
        have hb7 := hc6t.2
        refine y_lald (j := ((x9 * 8) + x4).toNatClampNeg) k75 l75 b7 rfl (dk zX9_behindRounds 71 rfl) ?_
        refine x_lload 10 rfl (dk zX9_behindRounds 72 rfl) ?_
        refine x_lsub (dk zX9_behindRounds 73 rfl) ?_
        refine x_lmul (dk zX9_behindRounds 74 rfl) ?_
        refine x_ladd (dk zX9_behindRounds 75 rfl) ?_
        refine x_topl (fun v8 ev8 => ?_)
        have hv8 := hb7 v8 ev8
        refine x_lstoreG (l' := [(0, .ref 42), (1, .ref x1), (2, .int x2), (3, .int x3), (4, .int x4), (5, .int x5), (6, .int x6), (7, .long v8), (9, .int x9), (10, .long v3), (12, .long 0)]) [1, 2, 3, 4, 5, 6, 7, 0, 8, 9, 10] rfl (by decide) (dk zX9_behindRounds 76 rfl) ?_
        obtain ⟨v9, ev9⟩ : ∃ y : Int32, y = x9 + 1 := ⟨_, rfl⟩
        have hv9 := hv8 v9 ev9
        refine x_iinc (v := v9) (l' := [(0, .ref 42), (1, .ref x1), (2, .int x2), (3, .int x3), (4, .int x4), (5, .int x5), (6, .int x6), (7, .long v8), (9, .int v9), (10, .long v3), (12, .long 0)]) 8 rfl (by rw [ev9]; rfl) [1, 2, 3, 4, 5, 6, 7, 8, 0, 9, 10] rfl (by decide) (dk zX9_behindRounds 77 rfl) ?_
        refine x_goto (tgt := 50) (by decide) (dk zX9_behindRounds 78 rfl) ?_
        exact x_sub [0, 1, 2, 3, 4, 5, 6, 7, 8] rfl hv9
      · have hc6f := hc4f.2 c6
        refine x_aload_n 0 rfl rfl (dk zX9_behindRounds 45 rfl) ?_
        refine gf9_3 (r := 56) rfl k42 r42_3 (dk zX9_behindRounds 46 rfl) ?_
        refine x_iload_n 2 rfl rfl (dk zX9_behindRounds 47 rfl) ?_
        refine x_iconst (v := 1) (by decide) (dk zX9_behindRounds 48 rfl) ?_
        refine x_ixor (dk zX9_behindRounds 49 rfl) ?_
        have b10 := hc6f.1
        have hb10 := hc6f.2
        refine y_aaldJ (b := 57 + (x2 ^^^ 1).toNatClampNeg) k56 l56 b10 (by omega) (dk zX9_behindRounds 50 rfl) ?_
        refine x_iload 8 rfl (dk zX9_behindRounds 51 rfl) ?_
        refine x_iconst (v := 2) (by decide) (dk zX9_behindRounds 52 rfl) ?_
        refine x_isub (dk zX9_behindRounds 53 rfl) ?_
        refine x_bipush (v := 8) (by decide) (dk zX9_behindRounds 54 rfl) ?_
        refine x_imul (dk zX9_behindRounds 55 rfl) ?_
        refine x_iload 6 rfl (dk zX9_behindRounds 56 rfl) ?_
        refine x_iadd (dk zX9_behindRounds 57 rfl) ?_
        have b11 := hb10.1
        have hb11 := hb10.2
        refine y_lald (j := (((x9 - 2) * 8) + x6).toNatClampNeg) (sBhk b10) (sBhl b10) b11 rfl (dk zX9_behindRounds 58 rfl) ?_
        refine x_goto (tgt := 105) (by decide) (dk zX9_behindRounds 59 rfl) ?_
        refine x_topl (fun v12 ev12 => ?_)
        have hv12 := hb11 v12 ev12
        refine x_lstoreG (l' := [(0, .ref 42), (1, .ref x1), (2, .int x2), (3, .int x3), (4, .int x4), (5, .int x5), (6, .int x6), (7, .long x7), (9, .int x9), (10, .long v3), (12, .long v12)]) [1, 2, 3, 4, 5, 6, 7, 8, 9, 10, 0] rfl (by decide) (dk zX9_behindRounds 61 rfl) ?_
        refine x_lload 7 rfl (dk zX9_behindRounds 62 rfl) ?_
        refine x_lload 9 rfl (dk zX9_behindRounds 63 rfl) ?_
        refine x_aload_n 0 rfl rfl (dk zX9_behindRounds 64 rfl) ?_
        refine gf9_4 (r := 75) rfl k42 r42_4 (dk zX9_behindRounds 65 rfl) ?_
        refine x_iload 8 rfl (dk zX9_behindRounds 66 rfl) ?_
        refine x_bipush (v := 8) (by decide) (dk zX9_behindRounds 67 rfl) ?_
        refine x_imul (dk zX9_behindRounds 68 rfl) ?_
        refine x_iload 4 rfl (dk zX9_behindRounds 69 rfl) ?_
        refine x_iadd (dk zX9_behindRounds 70 rfl) ?_
        have b13 := hv12.1
        have hb13 := hv12.2
        refine y_lald (j := ((x9 * 8) + x4).toNatClampNeg) k75 l75 b13 rfl (dk zX9_behindRounds 71 rfl) ?_
        refine x_lload 10 rfl (dk zX9_behindRounds 72 rfl) ?_
        refine x_lsub (dk zX9_behindRounds 73 rfl) ?_
        refine x_lmul (dk zX9_behindRounds 74 rfl) ?_
        refine x_ladd (dk zX9_behindRounds 75 rfl) ?_
        refine x_topl (fun v14 ev14 => ?_)
        have hv14 := hb13 v14 ev14
        refine x_lstoreG (l' := [(0, .ref 42), (1, .ref x1), (2, .int x2), (3, .int x3), (4, .int x4), (5, .int x5), (6, .int x6), (7, .long v14), (9, .int x9), (10, .long v3), (12, .long v12)]) [1, 2, 3, 4, 5, 6, 7, 0, 8, 9, 10] rfl (by decide) (dk zX9_behindRounds 76 rfl) ?_
        obtain ⟨v15, ev15⟩ : ∃ y : Int32, y = x9 + 1 := ⟨_, rfl⟩
        have hv15 := hv14 v15 ev15
        refine x_iinc (v := v15) (l' := [(0, .ref 42), (1, .ref x1), (2, .int x2), (3, .int x3), (4, .int x4), (5, .int x5), (6, .int x6), (7, .long v14), (9, .int v15), (10, .long v3), (12, .long v12)]) 8 rfl (by rw [ev15]; rfl) [1, 2, 3, 4, 5, 6, 7, 8, 0, 9, 10] rfl (by decide) (dk zX9_behindRounds 77 rfl) ?_
        refine x_goto (tgt := 50) (by decide) (dk zX9_behindRounds 78 rfl) ?_
        exact x_sub [0, 1, 2, 3, 4, 5, 6, 7, 8] rfl hv15
set_option maxRecDepth 20000 in
set_option maxHeartbeats 2000000 in
theorem gX9_lengthen_0 {E : EV} {Q : Po} {μ : Mem} {x1 : Nat} {x2 : Int32} {x3 : Int32} {x4 : Int32} (hk1 : kd x1 = 21) (hn1 : ln x1 = 104) (h : ((x4 ≤ 0 → Ex E MX9_lengthen Q 15 [(0, .ref 42), (1, .ref x1), (2, .int x2), (3, .int x3), (4, .int x4), (5, .int 0)] [] μ) ∧ (¬ x4 ≤ 0 → Sp E MX9_goOnByLanes [.ref 42, .ref x1, .int x4] μ (fun v m2 => v = none ∧ Ex E MX9_lengthen Q 15 [(0, .ref 42), (1, .ref x1), (2, .int x2), (3, .int x3), (4, .int x4), (5, .int 0)] [] m2)))) : Ex E MX9_lengthen Q 0 [(0, .ref 42), (1, .ref x1), (2, .int x2), (3, .int x3), (4, .int x4)] [] μ := by
  refine x_iload 4 rfl (dk zX9_lengthen 0 rfl) ?_
  refine x_if_le (tgt := 12) (by decide) (dk zX9_lengthen 1 rfl) (fun c1 => ?_) (fun c1 => ?_)
  · have hc1t := h.1 c1
    refine x_iconst (v := 0) (by decide) (dk zX9_lengthen 6 rfl) ?_
    refine x_istoreG (l' := [(0, .ref 42), (1, .ref x1), (2, .int x2), (3, .int x3), (4, .int x4), (5, .int 0)]) [1, 2, 3, 4, 5, 0] rfl (by decide) (dk zX9_lengthen 7 rfl) ?_
    exact hc1t
  · have hc1f := h.2 c1
    refine x_aload_n 0 rfl rfl (dk zX9_lengthen 2 rfl) ?_
    refine x_aload_n 1 rfl rfl (dk zX9_lengthen 3 rfl) ?_
    refine x_iload 4 rfl (dk zX9_lengthen 4 rfl) ?_
    refine x_callV (as := [.ref x1, .int x4]) (o := 42) (ci := 9) (st := []) rfl okRX9_107 npX9_goOnByLanes ⟨Nat.le_of_ble_eq_true rfl, Nat.le_of_ble_eq_true rfl⟩ k42 (by decide) rfl (Nat.le_of_ble_eq_true rfl) (dk zX9_lengthen 5 rfl) ?_
    refine hc1f.mono ?_
    rintro _ m2 ⟨rfl, hm2⟩
    show Ex E MX9_lengthen Q 12 [(0, .ref 42), (1, .ref x1), (2, .int x2), (3, .int x3), (4, .int x4)] [] m2
    refine x_iconst (v := 0) (by decide) (dk zX9_lengthen 6 rfl) ?_
    refine x_istoreG (l' := [(0, .ref 42), (1, .ref x1), (2, .int x2), (3, .int x3), (4, .int x4), (5, .int 0)]) [1, 2, 3, 4, 5, 0] rfl (by decide) (dk zX9_lengthen 7 rfl) ?_
    exact hm2
set_option maxRecDepth 20000 in
set_option maxHeartbeats 2000000 in
theorem gX9_lengthen_15 {E : EV} {Q : Po} {μ : Mem} {x1 : Nat} {x2 : Int32} {x3 : Int32} {x4 : Int32} {x5 : Int32} (hk_x1 : kd x1 = 21) (hn_x1 : ln x1 = 104) (h : ((8 ≤ x5 → Q none μ) ∧ (¬ 8 ≤ x5 → vp_in x2 8 ∧ (((¬ (((μ.1 55 x2.toNatClampNeg) >>> ((x5 : Int32) &&& 31)) &&& 1) = 1 → ∀ v4 : Int32, v4 = x5 + 1 → Ex E MX9_lengthen Q 15 [(0, .ref 42), (1, .ref x1), (2, .int x2), (3, .int x3), (4, .int x4), (5, .int v4)] [] μ) ∧ ((((μ.1 55 x2.toNatClampNeg) >>> ((x5 : Int32) &&& 31)) &&& 1) = 1 → vp_in ((x4 * 8) + x5) 104 ∧ (Sp E MX9_behindRounds [.ref 42, .ref x1, .int x3, .int x4, .int x5] μ (fun v m6 => ∃ r7 : Int64, v = some (.long r7) ∧ ∀ v8 : Int64, v8 = (μ.2 x1 (((x4 * 8) + x5).toNatClampNeg)) + r7 → ∀ v9 : Int32, v9 = x5 + 1 → Ex E MX9_lengthen Q 15 [(0, .ref 42), (1, .ref x1), (2, .int x2), (3, .int x3), (4, .int x4), (5, .int v9)] [] (mJ m6 x1 (((x4 * 8) + x5).toNatClampNeg) v8))))))))) : Ex E MX9_lengthen Q 15 [(0, .ref 42), (1, .ref x1), (2, .int x2), (3, .int x3), (4, .int x4), (5, .int x5)] [] μ := by
  refine x_iload 5 rfl (dk zX9_lengthen 8 rfl) ?_
  refine x_bipush (v := 8) (by decide) (dk zX9_lengthen 9 rfl) ?_
  refine x_icmp_ge (tgt := 66) (by decide) (dk zX9_lengthen 10 rfl) (fun c1 => ?_) (fun c1 => ?_)
  · have hc1t := h.1 c1
    exact x_vret rfl (dk zX9_lengthen 39 rfl) hc1t
  · have hc1f := h.2 c1
    refine x_aload_n 0 rfl rfl (dk zX9_lengthen 11 rfl) ?_
    refine gf9_2 (r := 55) rfl k42 r42_2 (dk zX9_lengthen 12 rfl) ?_
    refine x_iload_n 2 rfl rfl (dk zX9_lengthen 13 rfl) ?_
    have b2 := hc1f.1
    have hb2 := hc1f.2
    refine y_iald (j := x2.toNatClampNeg) k55 l55 b2 rfl (dk zX9_lengthen 14 rfl) ?_
    refine x_iload 5 rfl (dk zX9_lengthen 15 rfl) ?_
    refine x_ishr (dk zX9_lengthen 16 rfl) ?_
    refine x_iconst (v := 1) (by decide) (dk zX9_lengthen 17 rfl) ?_
    refine x_iand (dk zX9_lengthen 18 rfl) ?_
    refine x_iconst (v := 1) (by decide) (dk zX9_lengthen 19 rfl) ?_
    refine x_icmp_ne (tgt := 60) (by decide) (dk zX9_lengthen 20 rfl) (fun c3 => ?_) (fun c3 => ?_)
    · have hc3t := hb2.1 c3
      obtain ⟨v4, ev4⟩ : ∃ y : Int32, y = x5 + 1 := ⟨_, rfl⟩
      have hv4 := hc3t v4 ev4
      refine x_iinc (v := v4) (l' := [(0, .ref 42), (1, .ref x1), (2, .int x2), (3, .int x3), (4, .int x4), (5, .int v4)]) 5 rfl (by rw [ev4]; rfl) [1, 2, 3, 4, 5, 0] rfl (by decide) (dk zX9_lengthen 37 rfl) ?_
      refine x_goto (tgt := 15) (by decide) (dk zX9_lengthen 38 rfl) ?_
      exact hv4
    · have hc3f := hb2.2 c3
      refine x_aload_n 1 rfl rfl (dk zX9_lengthen 21 rfl) ?_
      refine x_iload 4 rfl (dk zX9_lengthen 22 rfl) ?_
      refine x_bipush (v := 8) (by decide) (dk zX9_lengthen 23 rfl) ?_
      refine x_imul (dk zX9_lengthen 24 rfl) ?_
      refine x_iload 5 rfl (dk zX9_lengthen 25 rfl) ?_
      refine x_iadd (dk zX9_lengthen 26 rfl) ?_
      refine x_dup2ri (dk zX9_lengthen 27 rfl) ?_
      have b5 := hc3f.1
      have hb5 := hc3f.2
      refine y_lald (j := ((x4 * 8) + x5).toNatClampNeg) hk_x1 hn_x1 b5 rfl (dk zX9_lengthen 28 rfl) ?_
      refine x_aload_n 0 rfl rfl (dk zX9_lengthen 29 rfl) ?_
      refine x_aload_n 1 rfl rfl (dk zX9_lengthen 30 rfl) ?_
      refine x_iload_n 3 rfl rfl (dk zX9_lengthen 31 rfl) ?_
      refine x_iload 4 rfl (dk zX9_lengthen 32 rfl) ?_
      refine x_iload 5 rfl (dk zX9_lengthen 33 rfl) ?_
      refine x_callV (as := [.ref x1, .int x3, .int x4, .int x5]) (o := 42) (ci := 9) (st := [.long (μ.2 x1 (((x4 * 8) + x5).toNatClampNeg)), .int ((x4 * 8) + x5), .ref x1]) rfl okRX9_111 npX9_behindRounds ⟨Nat.le_of_ble_eq_true rfl, Nat.le_of_ble_eq_true rfl⟩ k42 (by decide) rfl (Nat.le_of_ble_eq_true rfl) (dk zX9_lengthen 34 rfl) ?_
      refine hb5.mono ?_
      rintro _ m6 ⟨r7, rfl, hm6⟩
      show Ex E MX9_lengthen Q 58 [(0, .ref 42), (1, .ref x1), (2, .int x2), (3, .int x3), (4, .int x4), (5, .int x5)] [.long r7, .long (μ.2 x1 (((x4 * 8) + x5).toNatClampNeg)), .int ((x4 * 8) + x5), .ref x1] m6
      refine x_ladd (dk zX9_lengthen 35 rfl) ?_
      refine x_topl (fun v8 ev8 => ?_)
      have hv8 := hm6 v8 ev8
      refine y_last (j := ((x4 * 8) + x5).toNatClampNeg) hk_x1 hn_x1 b5 rfl (dk zX9_lengthen 36 rfl) ?_
      obtain ⟨v9, ev9⟩ : ∃ y : Int32, y = x5 + 1 := ⟨_, rfl⟩
      have hv9 := hv8 v9 ev9
      refine x_iinc (v := v9) (l' := [(0, .ref 42), (1, .ref x1), (2, .int x2), (3, .int x3), (4, .int x4), (5, .int v9)]) 5 rfl (by rw [ev9]; rfl) [1, 2, 3, 4, 5, 0] rfl (by decide) (dk zX9_lengthen 37 rfl) ?_
      refine x_goto (tgt := 15) (by decide) (dk zX9_lengthen 38 rfl) ?_
      exact hv9
set_option maxRecDepth 20000 in
set_option maxHeartbeats 2000000 in
theorem gX9_countRounds_0 {E : EV} {Q : Po} {μ : Mem} {x1 : Int32} (h : Sp E MJ7_fill_d0a16 [.ref 75, .long 0] μ (fun v m1 => v = none ∧ Ex E MX9_countRounds Q 10 [(0, .ref 42), (1, .int x1), (2, .int 0)] [] m1)) : Ex E MX9_countRounds Q 0 [(0, .ref 42), (1, .int x1)] [] μ := by
  refine x_aload_n 0 rfl rfl (dk zX9_countRounds 0 rfl) ?_
  refine gf9_4 (r := 75) rfl k42 r42_4 (dk zX9_countRounds 1 rfl) ?_
  refine x_lconst (v := 0) (by decide) (dk zX9_countRounds 2 rfl) ?_
  refine x_callS (as := [.ref 75, .long 0]) (st := []) rfl okRX9_58 npJ7_fill_d0a16 ⟨Nat.le_of_ble_eq_true rfl, Nat.le_of_ble_eq_true rfl⟩ (Nat.le_of_ble_eq_true rfl) (dk zX9_countRounds 3 rfl) ?_
  refine h.mono ?_
  rintro _ m1 ⟨rfl, hm1⟩
  show Ex E MX9_countRounds Q 8 [(0, .ref 42), (1, .int x1)] [] m1
  refine x_iconst (v := 0) (by decide) (dk zX9_countRounds 4 rfl) ?_
  refine x_istore_n (k := 2) (l' := [(0, .ref 42), (1, .int x1), (2, .int 0)]) [1, 2, 0] rfl rfl (by decide) (dk zX9_countRounds 5 rfl) ?_
  exact hm1
set_option maxRecDepth 20000 in
set_option maxHeartbeats 2000000 in
theorem gX9_countRounds_10 {E : EV} {Q : Po} {μ : Mem} {x1 : Int32} {x2 : Int32} (h : Sp E MX3_letters [.ref 1] μ (fun v m1 => ∃ r2 : Int32, v = some (.int r2) ∧ ((r2 ≤ x2 → Ex E MX9_countRounds Q 55 [(0, .ref 42), (1, .int x1), (2, .int 0)] [] m1) ∧ (¬ r2 ≤ x2 → vp_in x2 18 ∧ (Sp E MJ7_fill_d0a16 [.ref (57 + x2.toNatClampNeg), .long 0] m1 (fun v m5 => v = none ∧ Sp E MX3_to [.ref 1, .int x2] m5 (fun v m6 => ∃ r7 : Int32, v = some (.int r7) ∧ vp_in r7 104 ∧ (∀ v9 : Int32, v9 = x2 + 1 → Ex E MX9_countRounds Q 10 [(0, .ref 42), (1, .int x1), (2, .int v9)] [] (mJ m6 (57 + x2.toNatClampNeg) r7.toNatClampNeg 1))))))))) : Ex E MX9_countRounds Q 10 [(0, .ref 42), (1, .int x1), (2, .int x2)] [] μ := by
  refine x_iload_n 2 rfl rfl (dk zX9_countRounds 6 rfl) ?_
  refine x_aload_n 0 rfl rfl (dk zX9_countRounds 7 rfl) ?_
  refine gf9_0 (r := 1) rfl k42 r42_0 (dk zX9_countRounds 8 rfl) ?_
  refine x_callV (as := []) (o := 1) (ci := 3) (st := [.int x2]) rfl okRX9_101 npX3_letters ⟨Nat.le_of_ble_eq_true rfl, Nat.le_of_ble_eq_true rfl⟩ k1 (by decide) rfl (Nat.le_of_ble_eq_true rfl) (dk zX9_countRounds 9 rfl) ?_
  refine h.mono ?_
  rintro _ m1 ⟨r2, rfl, hm1⟩
  show Ex E MX9_countRounds Q 18 [(0, .ref 42), (1, .int x1), (2, .int x2)] [.int r2, .int x2] m1
  refine x_icmp_ge (tgt := 53) (by decide) (dk zX9_countRounds 10 rfl) (fun c3 => ?_) (fun c3 => ?_)
  · have hc3t := hm1.1 c3
    refine x_iconst (v := 0) (by decide) (dk zX9_countRounds 29 rfl) ?_
    refine x_istore_n (k := 2) (l' := [(0, .ref 42), (1, .int x1), (2, .int 0)]) [1, 2, 0] rfl rfl (by decide) (dk zX9_countRounds 30 rfl) ?_
    exact hc3t
  · have hc3f := hm1.2 c3
    refine x_aload_n 0 rfl rfl (dk zX9_countRounds 11 rfl) ?_
    refine gf9_3 (r := 56) rfl k42 r42_3 (dk zX9_countRounds 12 rfl) ?_
    refine x_iload_n 2 rfl rfl (dk zX9_countRounds 13 rfl) ?_
    have b4 := hc3f.1
    have hb4 := hc3f.2
    refine y_aaldJ (b := 57 + x2.toNatClampNeg) k56 l56 b4 (by omega) (dk zX9_countRounds 14 rfl) ?_
    refine x_lconst (v := 0) (by decide) (dk zX9_countRounds 15 rfl) ?_
    refine x_callS (as := [.ref (57 + x2.toNatClampNeg), .long 0]) (st := []) rfl okRX9_58 npJ7_fill_d0a16 ⟨Nat.le_of_ble_eq_true rfl, Nat.le_of_ble_eq_true rfl⟩ (Nat.le_of_ble_eq_true rfl) (dk zX9_countRounds 16 rfl) ?_
    refine hb4.mono ?_
    rintro _ m5 ⟨rfl, hm5⟩
    show Ex E MX9_countRounds Q 31 [(0, .ref 42), (1, .int x1), (2, .int x2)] [] m5
    refine x_aload_n 0 rfl rfl (dk zX9_countRounds 17 rfl) ?_
    refine gf9_3 (r := 56) rfl k42 r42_3 (dk zX9_countRounds 18 rfl) ?_
    refine x_iload_n 2 rfl rfl (dk zX9_countRounds 19 rfl) ?_
    refine y_aaldJ (b := 57 + x2.toNatClampNeg) k56 l56 b4 (by omega) (dk zX9_countRounds 20 rfl) ?_
    refine x_aload_n 0 rfl rfl (dk zX9_countRounds 21 rfl) ?_
    refine gf9_0 (r := 1) rfl k42 r42_0 (dk zX9_countRounds 22 rfl) ?_
    refine x_iload_n 2 rfl rfl (dk zX9_countRounds 23 rfl) ?_
    refine x_callV (as := [.int x2]) (o := 1) (ci := 3) (st := [.ref (57 + x2.toNatClampNeg)]) rfl okRX9_81 npX3_to ⟨Nat.le_of_ble_eq_true rfl, Nat.le_of_ble_eq_true rfl⟩ k1 (by decide) rfl (Nat.le_of_ble_eq_true rfl) (dk zX9_countRounds 24 rfl) ?_
    refine hm5.mono ?_
    rintro _ m6 ⟨r7, rfl, hm6⟩
    show Ex E MX9_countRounds Q 45 [(0, .ref 42), (1, .int x1), (2, .int x2)] [.int r7, .ref (57 + x2.toNatClampNeg)] m6
    refine x_lconst (v := 1) (by decide) (dk zX9_countRounds 25 rfl) ?_
    have b8 := hm6.1
    have hb8 := hm6.2
    refine y_last (j := r7.toNatClampNeg) (sBhk b4) (sBhl b4) b8 rfl (dk zX9_countRounds 26 rfl) ?_
    obtain ⟨v9, ev9⟩ : ∃ y : Int32, y = x2 + 1 := ⟨_, rfl⟩
    have hv9 := hb8 v9 ev9
    refine x_iinc (v := v9) (l' := [(0, .ref 42), (1, .int x1), (2, .int v9)]) 2 rfl (by rw [ev9]; rfl) [1, 2, 0] rfl (by decide) (dk zX9_countRounds 27 rfl) ?_
    refine x_goto (tgt := 10) (by decide) (dk zX9_countRounds 28 rfl) ?_
    exact hv9
set_option maxRecDepth 20000 in
set_option maxHeartbeats 2000000 in
theorem gX9_countRounds_55 {E : EV} {Q : Po} {μ : Mem} {x1 : Int32} {x2 : Int32} (h : ((x1 < (x2 + 2) → Q none μ) ∧ (¬ x1 < (x2 + 2) → Ex E MX9_countRounds Q 64 [(0, .ref 42), (1, .int x1), (2, .int x2), (3, .int 0)] [] μ))) : Ex E MX9_countRounds Q 55 [(0, .ref 42), (1, .int x1), (2, .int x2)] [] μ := by
  refine x_iload_n 2 rfl rfl (dk zX9_countRounds 31 rfl) ?_
  refine x_iconst (v := 2) (by decide) (dk zX9_countRounds 32 rfl) ?_
  refine x_iadd (dk zX9_countRounds 33 rfl) ?_
  refine x_iload_n 1 rfl rfl (dk zX9_countRounds 34 rfl) ?_
  refine x_icmp_gt (tgt := 170) (by decide) (dk zX9_countRounds 35 rfl) (fun c1 => ?_) (fun c1 => ?_)
  · have hc1t := h.1 c1
    exact x_vret rfl (dk zX9_countRounds 97 rfl) hc1t
  · have hc1f := h.2 c1
    refine x_iconst (v := 0) (by decide) (dk zX9_countRounds 36 rfl) ?_
    refine x_istore_n (k := 3) (l' := [(0, .ref 42), (1, .int x1), (2, .int x2), (3, .int 0)]) [1, 2, 3, 0] rfl rfl (by decide) (dk zX9_countRounds 37 rfl) ?_
    exact hc1f
set_option maxRecDepth 20000 in
set_option maxHeartbeats 2000000 in
theorem gX9_countRounds_64 {E : EV} {Q : Po} {μ : Mem} {x1 : Int32} {x2 : Int32} {x3 : Int32} (h : Sp E MX3_letters [.ref 1] μ (fun v m1 => ∃ r2 : Int32, v = some (.int r2) ∧ ((r2 ≤ x3 → ∀ v4 : Int32, v4 = x2 + 1 → Ex E MX9_countRounds Q 55 [(0, .ref 42), (1, .int x1), (2, .int v4)] [] m1) ∧ (¬ r2 ≤ x3 → Sp E MX3_isOpen [.ref 1, .int x3] m1 (fun v m5 => ∃ r6 : Int32, v = some (.int r6) ∧ ((r6 = 0 → ∀ v8 : Int32, v8 = x3 + 1 → Ex E MX9_countRounds Q 64 [(0, .ref 42), (1, .int x1), (2, .int x2), (3, .int v8)] [] m5) ∧ (¬ r6 = 0 → Sp E MX3_isWatched [.ref 1, .int x3] m5 (fun v m9 => ∃ r10 : Int32, v = some (.int r10) ∧ ((r10 = 0 → ∀ v12 : Int32, v12 = x3 + 1 → Ex E MX9_countRounds Q 64 [(0, .ref 42), (1, .int x1), (2, .int x2), (3, .int v12)] [] m9) ∧ (¬ r10 = 0 → Sp E MX3_to [.ref 1, .int x3] m9 (fun v m13 => ∃ r14 : Int32, v = some (.int r14) ∧ vp_in x3 18 ∧ (Sp E MX9_lengthen [.ref 42, .ref (57 + x3.toNatClampNeg), .int r14, .int x3, .int x2] m13 (fun v m16 => v = none ∧ Sp E MX3_from [.ref 1, .int x3] m16 (fun v m17 => ∃ r18 : Int32, v = some (.int r18) ∧ vp_in (((x2 + 2) * 8) + r18) 104 ∧ (vp_in ((x2 * 8) + r14) 104 ∧ (∀ v21 : Int64, v21 = (m17.2 75 ((((x2 + 2) * 8) + r18).toNatClampNeg)) + (m17.2 (57 + x3.toNatClampNeg) (((x2 * 8) + r14).toNatClampNeg)) → ∀ v22 : Int32, v22 = x3 + 1 → Ex E MX9_countRounds Q 64 [(0, .ref 42), (1, .int x1), (2, .int x2), (3, .int v22)] [] (mJ m17 75 ((((x2 + 2) * 8) + r18).toNatClampNeg) v21))))))))))))))))) : Ex E MX9_countRounds Q 64 [(0, .ref 42), (1, .int x1), (2, .int x2), (3, .int x3)] [] μ := by
  refine x_iload_n 3 rfl rfl (dk zX9_countRounds 38 rfl) ?_
  refine x_aload_n 0 rfl rfl (dk zX9_countRounds 39 rfl) ?_
  refine gf9_0 (r := 1) rfl k42 r42_0 (dk zX9_countRounds 40 rfl) ?_
  refine x_callV (as := []) (o := 1) (ci := 3) (st := [.int x3]) rfl okRX9_101 npX3_letters ⟨Nat.le_of_ble_eq_true rfl, Nat.le_of_ble_eq_true rfl⟩ k1 (by decide) rfl (Nat.le_of_ble_eq_true rfl) (dk zX9_countRounds 41 rfl) ?_
  refine h.mono ?_
  rintro _ m1 ⟨r2, rfl, hm1⟩
  show Ex E MX9_countRounds Q 72 [(0, .ref 42), (1, .int x1), (2, .int x2), (3, .int x3)] [.int r2, .int x3] m1
  refine x_icmp_ge (tgt := 164) (by decide) (dk zX9_countRounds 42 rfl) (fun c3 => ?_) (fun c3 => ?_)
  · have hc3t := hm1.1 c3
    obtain ⟨v4, ev4⟩ : ∃ y : Int32, y = x2 + 1 := ⟨_, rfl⟩
    have hv4 := hc3t v4 ev4
    refine x_iinc (v := v4) (l' := [(0, .ref 42), (1, .int x1), (2, .int v4), (3, .int x3)]) 2 rfl (by rw [ev4]; rfl) [1, 2, 0, 3] rfl (by decide) (dk zX9_countRounds 95 rfl) ?_
    refine x_goto (tgt := 55) (by decide) (dk zX9_countRounds 96 rfl) ?_
    exact x_sub [0, 1, 2] rfl hv4
  · have hc3f := hm1.2 c3
    refine x_aload_n 0 rfl rfl (dk zX9_countRounds 43 rfl) ?_
    refine gf9_0 (r := 1) rfl k42 r42_0 (dk zX9_countRounds 44 rfl) ?_
    refine x_iload_n 3 rfl rfl (dk zX9_countRounds 45 rfl) ?_
    refine x_callV (as := [.int x3]) (o := 1) (ci := 3) (st := []) rfl okRX9_72 npX3_isOpen ⟨Nat.le_of_ble_eq_true rfl, Nat.le_of_ble_eq_true rfl⟩ k1 (by decide) rfl (Nat.le_of_ble_eq_true rfl) (dk zX9_countRounds 46 rfl) ?_
    refine hc3f.mono ?_
    rintro _ m5 ⟨r6, rfl, hm5⟩
    show Ex E MX9_countRounds Q 83 [(0, .ref 42), (1, .int x1), (2, .int x2), (3, .int x3)] [.int r6] m5
    refine x_if_eq (tgt := 158) (by decide) (dk zX9_countRounds 47 rfl) (fun c7 => ?_) (fun c7 => ?_)
    · have hc7t := hm5.1 c7
      obtain ⟨v8, ev8⟩ : ∃ y : Int32, y = x3 + 1 := ⟨_, rfl⟩
      have hv8 := hc7t v8 ev8
      refine x_iinc (v := v8) (l' := [(0, .ref 42), (1, .int x1), (2, .int x2), (3, .int v8)]) 3 rfl (by rw [ev8]; rfl) [1, 2, 3, 0] rfl (by decide) (dk zX9_countRounds 93 rfl) ?_
      refine x_goto (tgt := 64) (by decide) (dk zX9_countRounds 94 rfl) ?_
      exact hv8
    · have hc7f := hm5.2 c7
      refine x_aload_n 0 rfl rfl (dk zX9_countRounds 48 rfl) ?_
      refine gf9_0 (r := 1) rfl k42 r42_0 (dk zX9_countRounds 49 rfl) ?_
      refine x_iload_n 3 rfl rfl (dk zX9_countRounds 50 rfl) ?_
      refine x_callV (as := [.int x3]) (o := 1) (ci := 3) (st := []) rfl okRX9_104 npX3_isWatched ⟨Nat.le_of_ble_eq_true rfl, Nat.le_of_ble_eq_true rfl⟩ k1 (by decide) rfl (Nat.le_of_ble_eq_true rfl) (dk zX9_countRounds 51 rfl) ?_
      refine hc7f.mono ?_
      rintro _ m9 ⟨r10, rfl, hm9⟩
      show Ex E MX9_countRounds Q 94 [(0, .ref 42), (1, .int x1), (2, .int x2), (3, .int x3)] [.int r10] m9
      refine x_if_eq (tgt := 158) (by decide) (dk zX9_countRounds 52 rfl) (fun c11 => ?_) (fun c11 => ?_)
      · have hc11t := hm9.1 c11
        obtain ⟨v12, ev12⟩ : ∃ y : Int32, y = x3 + 1 := ⟨_, rfl⟩
        have hv12 := hc11t v12 ev12
        refine x_iinc (v := v12) (l' := [(0, .ref 42), (1, .int x1), (2, .int x2), (3, .int v12)]) 3 rfl (by rw [ev12]; rfl) [1, 2, 3, 0] rfl (by decide) (dk zX9_countRounds 93 rfl) ?_
        refine x_goto (tgt := 64) (by decide) (dk zX9_countRounds 94 rfl) ?_
        exact hv12
      · have hc11f := hm9.2 c11
        refine x_aload_n 0 rfl rfl (dk zX9_countRounds 53 rfl) ?_
        refine gf9_0 (r := 1) rfl k42 r42_0 (dk zX9_countRounds 54 rfl) ?_
        refine x_iload_n 3 rfl rfl (dk zX9_countRounds 55 rfl) ?_
        refine x_callV (as := [.int x3]) (o := 1) (ci := 3) (st := []) rfl okRX9_81 npX3_to ⟨Nat.le_of_ble_eq_true rfl, Nat.le_of_ble_eq_true rfl⟩ k1 (by decide) rfl (Nat.le_of_ble_eq_true rfl) (dk zX9_countRounds 56 rfl) ?_
        refine hc11f.mono ?_
        rintro _ m13 ⟨r14, rfl, hm13⟩
        show Ex E MX9_countRounds Q 105 [(0, .ref 42), (1, .int x1), (2, .int x2), (3, .int x3)] [.int r14] m13
        refine x_istoreG (l' := [(0, .ref 42), (1, .int x1), (2, .int x2), (3, .int x3), (4, .int r14)]) [1, 2, 3, 4, 0] rfl (by decide) (dk zX9_countRounds 57 rfl) ?_
        refine x_aload_n 0 rfl rfl (dk zX9_countRounds 58 rfl) ?_
        refine x_aload_n 0 rfl rfl (dk zX9_countRounds 59 rfl) ?_
        refine gf9_3 (r := 56) rfl k42 r42_3 (dk zX9_countRounds 60 rfl) ?_
        refine x_iload_n 3 rfl rfl (dk zX9_countRounds 61 rfl) ?_
        have b15 := hm13.1
        have hb15 := hm13.2
        refine y_aaldJ (b := 57 + x3.toNatClampNeg) k56 l56 b15 (by omega) (dk zX9_countRounds 62 rfl) ?_
        refine x_iload 4 rfl (dk zX9_countRounds 63 rfl) ?_
        refine x_iload_n 3 rfl rfl (dk zX9_countRounds 64 rfl) ?_
        refine x_iload_n 2 rfl rfl (dk zX9_countRounds 65 rfl) ?_
        refine x_callV (as := [.ref (57 + x3.toNatClampNeg), .int r14, .int x3, .int x2]) (o := 42) (ci := 9) (st := []) rfl okRX9_97 npX9_lengthen ⟨Nat.le_of_ble_eq_true rfl, Nat.le_of_ble_eq_true rfl⟩ k42 (by decide) rfl (Nat.le_of_ble_eq_true rfl) (dk zX9_countRounds 66 rfl) ?_
        refine hb15.mono ?_
        rintro _ m16 ⟨rfl, hm16⟩
        show Ex E MX9_countRounds Q 121 [(0, .ref 42), (1, .int x1), (2, .int x2), (3, .int x3), (4, .int r14)] [] m16
        refine x_aload_n 0 rfl rfl (dk zX9_countRounds 67 rfl) ?_
        refine gf9_4 (r := 75) rfl k42 r42_4 (dk zX9_countRounds 68 rfl) ?_
        refine x_iload_n 2 rfl rfl (dk zX9_countRounds 69 rfl) ?_
        refine x_iconst (v := 2) (by decide) (dk zX9_countRounds 70 rfl) ?_
        refine x_iadd (dk zX9_countRounds 71 rfl) ?_
        refine x_bipush (v := 8) (by decide) (dk zX9_countRounds 72 rfl) ?_
        refine x_imul (dk zX9_countRounds 73 rfl) ?_
        refine x_aload_n 0 rfl rfl (dk zX9_countRounds 74 rfl) ?_
        refine gf9_0 (r := 1) rfl k42 r42_0 (dk zX9_countRounds 75 rfl) ?_
        refine x_iload_n 3 rfl rfl (dk zX9_countRounds 76 rfl) ?_
        refine x_callV (as := [.int x3]) (o := 1) (ci := 3) (st := [.int ((x2 + 2) * 8), .ref 75]) rfl okRX9_94 npX3_from ⟨Nat.le_of_ble_eq_true rfl, Nat.le_of_ble_eq_true rfl⟩ k1 (by decide) rfl (Nat.le_of_ble_eq_true rfl) (dk zX9_countRounds 77 rfl) ?_
        refine hm16.mono ?_
        rintro _ m17 ⟨r18, rfl, hm17⟩
        show Ex E MX9_countRounds Q 139 [(0, .ref 42), (1, .int x1), (2, .int x2), (3, .int x3), (4, .int r14)] [.int r18, .int ((x2 + 2) * 8), .ref 75] m17
        refine x_iadd (dk zX9_countRounds 78 rfl) ?_
        refine x_dup2ri (dk zX9_countRounds 79 rfl) ?_
        have b19 := hm17.1
        have hb19 := hm17.2
        refine y_lald (j := (((x2 + 2) * 8) + r18).toNatClampNeg) k75 l75 b19 rfl (dk zX9_countRounds 80 rfl) ?_
        refine x_aload_n 0 rfl rfl (dk zX9_countRounds 81 rfl) ?_
        refine gf9_3 (r := 56) rfl k42 r42_3 (dk zX9_countRounds 82 rfl) ?_
        refine x_iload_n 3 rfl rfl (dk zX9_countRounds 83 rfl) ?_
        refine y_aaldJ (b := 57 + x3.toNatClampNeg) k56 l56 b15 (by omega) (dk zX9_countRounds 84 rfl) ?_
        refine x_iload_n 2 rfl rfl (dk zX9_countRounds 85 rfl) ?_
        refine x_bipush (v := 8) (by decide) (dk zX9_countRounds 86 rfl) ?_
        refine x_imul (dk zX9_countRounds 87 rfl) ?_
        refine x_iload 4 rfl (dk zX9_countRounds 88 rfl) ?_
        refine x_iadd (dk zX9_countRounds 89 rfl) ?_
        have b20 := hb19.1
        have hb20 := hb19.2
        refine y_lald (j := ((x2 * 8) + r14).toNatClampNeg) (sBhk b15) (sBhl b15) b20 rfl (dk zX9_countRounds 90 rfl) ?_
        refine x_ladd (dk zX9_countRounds 91 rfl) ?_
        refine x_topl (fun v21 ev21 => ?_)
        have hv21 := hb20 v21 ev21
        refine y_last (j := (((x2 + 2) * 8) + r18).toNatClampNeg) k75 l75 b19 rfl (dk zX9_countRounds 92 rfl) ?_
        obtain ⟨v22, ev22⟩ : ∃ y : Int32, y = x3 + 1 := ⟨_, rfl⟩
        have hv22 := hv21 v22 ev22
        refine x_iinc (v := v22) (l' := [(0, .ref 42), (1, .int x1), (2, .int x2), (3, .int v22), (4, .int r14)]) 3 rfl (by rw [ev22]; rfl) [1, 2, 3, 0, 4] rfl (by decide) (dk zX9_countRounds 93 rfl) ?_
        refine x_goto (tgt := 64) (by decide) (dk zX9_countRounds 94 rfl) ?_
        exact x_sub [0, 1, 2, 3] rfl hv22
set_option maxRecDepth 20000 in
set_option maxHeartbeats 2000000 in
theorem gX9_countFrom_0 {E : EV} {Q : Po} {μ : Mem} {x1 : Int32} {x2 : Int32} {x3 : Int32} (h : Sp E MJ7_fill_d0a16 [.ref 76, .long 0] μ (fun v m1 => v = none ∧ Ex E MX9_countFrom Q 11 [(0, .ref 42), (1, .int x1), (2, .int x2), (3, .int x3), (4, .int 0)] [] m1)) : Ex E MX9_countFrom Q 0 [(0, .ref 42), (1, .int x1), (2, .int x2), (3, .int x3)] [] μ := by
  refine x_aload_n 0 rfl rfl (dk zX9_countFrom 0 rfl) ?_
  refine gf9_5 (r := 76) rfl k42 r42_5 (dk zX9_countFrom 1 rfl) ?_
  refine x_lconst (v := 0) (by decide) (dk zX9_countFrom 2 rfl) ?_
  refine x_callS (as := [.ref 76, .long 0]) (st := []) rfl okRX9_58 npJ7_fill_d0a16 ⟨Nat.le_of_ble_eq_true rfl, Nat.le_of_ble_eq_true rfl⟩ (Nat.le_of_ble_eq_true rfl) (dk zX9_countFrom 3 rfl) ?_
  refine h.mono ?_
  rintro _ m1 ⟨rfl, hm1⟩
  show Ex E MX9_countFrom Q 8 [(0, .ref 42), (1, .int x1), (2, .int x2), (3, .int x3)] [] m1
  refine x_iconst (v := 0) (by decide) (dk zX9_countFrom 4 rfl) ?_
  refine x_istoreG (l' := [(0, .ref 42), (1, .int x1), (2, .int x2), (3, .int x3), (4, .int 0)]) [1, 2, 3, 4, 0] rfl (by decide) (dk zX9_countFrom 5 rfl) ?_
  exact hm1
set_option maxRecDepth 20000 in
set_option maxHeartbeats 2000000 in
theorem gX9_countFrom_11 {E : EV} {Q : Po} {μ : Mem} {x1 : Int32} {x2 : Int32} {x3 : Int32} {x4 : Int32} (h : ((x3 < x4 → Q none μ) ∧ (¬ x3 < x4 → vp_in x4 13 ∧ (∀ v3 : Int64, v3 = μ.2 77 x4.toNatClampNeg → vp_in ((x4 * 8) + x1) 104 ∧ (Sp E MX9_lengthen [.ref 42, .ref 76, .int x1, .int x2, .int x4] (mJ μ 76 (((x4 * 8) + x1).toNatClampNeg) v3) (fun v m5 => v = none ∧ ∀ v6 : Int32, v6 = x4 + 1 → Ex E MX9_countFrom Q 11 [(0, .ref 42), (1, .int x1), (2, .int x2), (3, .int x3), (4, .int v6)] [] m5)))))) : Ex E MX9_countFrom Q 11 [(0, .ref 42), (1, .int x1), (2, .int x2), (3, .int x3), (4, .int x4)] [] μ := by
  refine x_iload 4 rfl (dk zX9_countFrom 6 rfl) ?_
  refine x_iload_n 3 rfl rfl (dk zX9_countFrom 7 rfl) ?_
  refine x_icmp_gt (tgt := 54) (by decide) (dk zX9_countFrom 8 rfl) (fun c1 => ?_) (fun c1 => ?_)
  · have hc1t := h.1 c1
    exact x_vret rfl (dk zX9_countFrom 30 rfl) hc1t
  · have hc1f := h.2 c1
    refine x_aload_n 0 rfl rfl (dk zX9_countFrom 9 rfl) ?_
    refine gf9_5 (r := 76) rfl k42 r42_5 (dk zX9_countFrom 10 rfl) ?_
    refine x_iload 4 rfl (dk zX9_countFrom 11 rfl) ?_
    refine x_bipush (v := 8) (by decide) (dk zX9_countFrom 12 rfl) ?_
    refine x_imul (dk zX9_countFrom 13 rfl) ?_
    refine x_iload_n 1 rfl rfl (dk zX9_countFrom 14 rfl) ?_
    refine x_iadd (dk zX9_countFrom 15 rfl) ?_
    refine x_aload_n 0 rfl rfl (dk zX9_countFrom 16 rfl) ?_
    refine gf9_6 (r := 77) rfl k42 r42_6 (dk zX9_countFrom 17 rfl) ?_
    refine x_iload 4 rfl (dk zX9_countFrom 18 rfl) ?_
    have b2 := hc1f.1
    have hb2 := hc1f.2
    refine y_lald (j := x4.toNatClampNeg) k77 l77 b2 rfl (dk zX9_countFrom 19 rfl) ?_
    refine x_topl (fun v3 ev3 => ?_)
    have hv3 := hb2 v3 ev3
    have b4 := hv3.1
    have hb4 := hv3.2
    refine y_last (j := ((x4 * 8) + x1).toNatClampNeg) k76 l76 b4 rfl (dk zX9_countFrom 20 rfl) ?_
    refine x_aload_n 0 rfl rfl (dk zX9_countFrom 21 rfl) ?_
    refine x_aload_n 0 rfl rfl (dk zX9_countFrom 22 rfl) ?_
    refine gf9_5 (r := 76) rfl k42 r42_5 (dk zX9_countFrom 23 rfl) ?_
    refine x_iload_n 1 rfl rfl (dk zX9_countFrom 24 rfl) ?_
    refine x_iload_n 2 rfl rfl (dk zX9_countFrom 25 rfl) ?_
    refine x_iload 4 rfl (dk zX9_countFrom 26 rfl) ?_
    refine x_callV (as := [.ref 76, .int x1, .int x2, .int x4]) (o := 42) (ci := 9) (st := []) rfl okRX9_97 npX9_lengthen ⟨Nat.le_of_ble_eq_true rfl, Nat.le_of_ble_eq_true rfl⟩ k42 (by decide) rfl (Nat.le_of_ble_eq_true rfl) (dk zX9_countFrom 27 rfl) ?_
    refine hb4.mono ?_
    rintro _ m5 ⟨rfl, hm5⟩
    show Ex E MX9_countFrom Q 48 [(0, .ref 42), (1, .int x1), (2, .int x2), (3, .int x3), (4, .int x4)] [] m5
    obtain ⟨v6, ev6⟩ : ∃ y : Int32, y = x4 + 1 := ⟨_, rfl⟩
    have hv6 := hm5 v6 ev6
    refine x_iinc (v := v6) (l' := [(0, .ref 42), (1, .int x1), (2, .int x2), (3, .int x3), (4, .int v6)]) 4 rfl (by rw [ev6]; rfl) [1, 2, 3, 4, 0] rfl (by decide) (dk zX9_countFrom 28 rfl) ?_
    refine x_goto (tgt := 11) (by decide) (dk zX9_countFrom 29 rfl) ?_
    exact hv6
set_option maxRecDepth 20000 in
set_option maxHeartbeats 2000000 in
theorem gX9_stampForGood_0 {E : EV} {Q : Po} {μ : Mem} {x1 : Int32} {x2 : Int32} (h : Sp E MX3_from [.ref 1, .int x1] μ (fun v m1 => ∃ r2 : Int32, v = some (.int r2) ∧ Ex E MX9_stampForGood Q 19 [(0, .ref 42), (1, .int x1), (2, .int x2), (3, .int r2), (4, .int 1)] [] (mJ m1 77 0 0))) : Ex E MX9_stampForGood Q 0 [(0, .ref 42), (1, .int x1), (2, .int x2)] [] μ := by
  refine x_aload_n 0 rfl rfl (dk zX9_stampForGood 0 rfl) ?_
  refine gf9_0 (r := 1) rfl k42 r42_0 (dk zX9_stampForGood 1 rfl) ?_
  refine x_iload_n 1 rfl rfl (dk zX9_stampForGood 2 rfl) ?_
  refine x_callV (as := [.int x1]) (o := 1) (ci := 3) (st := []) rfl okRX9_94 npX3_from ⟨Nat.le_of_ble_eq_true rfl, Nat.le_of_ble_eq_true rfl⟩ k1 (by decide) rfl (Nat.le_of_ble_eq_true rfl) (dk zX9_stampForGood 3 rfl) ?_
  refine h.mono ?_
  rintro _ m1 ⟨r2, rfl, hm1⟩
  show Ex E MX9_stampForGood Q 8 [(0, .ref 42), (1, .int x1), (2, .int x2)] [.int r2] m1
  refine x_istore_n (k := 3) (l' := [(0, .ref 42), (1, .int x1), (2, .int x2), (3, .int r2)]) [1, 2, 3, 0] rfl rfl (by decide) (dk zX9_stampForGood 4 rfl) ?_
  refine x_aload_n 0 rfl rfl (dk zX9_stampForGood 5 rfl) ?_
  refine gf9_6 (r := 77) rfl k42 r42_6 (dk zX9_stampForGood 6 rfl) ?_
  refine x_iconst (v := 0) (by decide) (dk zX9_stampForGood 7 rfl) ?_
  refine x_lconst (v := 0) (by decide) (dk zX9_stampForGood 8 rfl) ?_
  refine y_last (j := 0) k77 l77 (by unfold vp_in; decide) (by decide) (dk zX9_stampForGood 9 rfl) ?_
  refine x_iconst (v := 1) (by decide) (dk zX9_stampForGood 10 rfl) ?_
  refine x_istoreG (l' := [(0, .ref 42), (1, .int x1), (2, .int x2), (3, .int r2), (4, .int 1)]) [1, 2, 3, 4, 0] rfl (by decide) (dk zX9_stampForGood 11 rfl) ?_
  exact hm1
set_option maxRecDepth 20000 in
set_option maxHeartbeats 2000000 in
theorem gX9_stampForGood_19 {E : EV} {Q : Po} {μ : Mem} {x1 : Int32} {x2 : Int32} {x3 : Int32} {x4 : Int32} (h : ((x2 < x4 → Q none μ) ∧ (¬ x2 < x4 → vp_in (((x4 - 1) * 8) + x3) 104 ∧ (∀ v3 : Int64, v3 = μ.2 76 ((((x4 - 1) * 8) + x3).toNatClampNeg) → vp_in x4 13 ∧ (∀ v5 : Int32, v5 = x4 + 1 → Ex E MX9_stampForGood Q 19 [(0, .ref 42), (1, .int x1), (2, .int x2), (3, .int x3), (4, .int v5)] [] (mJ μ 77 x4.toNatClampNeg v3)))))) : Ex E MX9_stampForGood Q 19 [(0, .ref 42), (1, .int x1), (2, .int x2), (3, .int x3), (4, .int x4)] [] μ := by
  refine x_iload 4 rfl (dk zX9_stampForGood 12 rfl) ?_
  refine x_iload_n 2 rfl rfl (dk zX9_stampForGood 13 rfl) ?_
  refine x_icmp_gt (tgt := 52) (by decide) (dk zX9_stampForGood 14 rfl) (fun c1 => ?_) (fun c1 => ?_)
  · have hc1t := h.1 c1
    exact x_vret rfl (dk zX9_stampForGood 31 rfl) hc1t
  · have hc1f := h.2 c1
    refine x_aload_n 0 rfl rfl (dk zX9_stampForGood 15 rfl) ?_
    refine gf9_6 (r := 77) rfl k42 r42_6 (dk zX9_stampForGood 16 rfl) ?_
    refine x_iload 4 rfl (dk zX9_stampForGood 17 rfl) ?_
    refine x_aload_n 0 rfl rfl (dk zX9_stampForGood 18 rfl) ?_
    refine gf9_5 (r := 76) rfl k42 r42_5 (dk zX9_stampForGood 19 rfl) ?_
    refine x_iload 4 rfl (dk zX9_stampForGood 20 rfl) ?_
    refine x_iconst (v := 1) (by decide) (dk zX9_stampForGood 21 rfl) ?_
    refine x_isub (dk zX9_stampForGood 22 rfl) ?_
    refine x_bipush (v := 8) (by decide) (dk zX9_stampForGood 23 rfl) ?_
    refine x_imul (dk zX9_stampForGood 24 rfl) ?_
    refine x_iload_n 3 rfl rfl (dk zX9_stampForGood 25 rfl) ?_
    refine x_iadd (dk zX9_stampForGood 26 rfl) ?_
    have b2 := hc1f.1
    have hb2 := hc1f.2
    refine y_lald (j := (((x4 - 1) * 8) + x3).toNatClampNeg) k76 l76 b2 rfl (dk zX9_stampForGood 27 rfl) ?_
    refine x_topl (fun v3 ev3 => ?_)
    have hv3 := hb2 v3 ev3
    have b4 := hv3.1
    have hb4 := hv3.2
    refine y_last (j := x4.toNatClampNeg) k77 l77 b4 rfl (dk zX9_stampForGood 28 rfl) ?_
    obtain ⟨v5, ev5⟩ : ∃ y : Int32, y = x4 + 1 := ⟨_, rfl⟩
    have hv5 := hb4 v5 ev5
    refine x_iinc (v := v5) (l' := [(0, .ref 42), (1, .int x1), (2, .int x2), (3, .int x3), (4, .int v5)]) 4 rfl (by rw [ev5]; rfl) [1, 2, 3, 4, 0] rfl (by decide) (dk zX9_stampForGood 29 rfl) ?_
    refine x_goto (tgt := 19) (by decide) (dk zX9_stampForGood 30 rfl) ?_
    exact hv5
set_option maxRecDepth 20000 in
set_option maxHeartbeats 2000000 in
theorem gX9_number_0 {E : EV} {Q : Po} {μ : Mem} {x1 : Int32} {x2 : Nat} {x3 : Int32} {x4 : Int32} (hk2 : kd x2 = 5) (h : Sp E MX5_size [.ref x2] μ (fun v m1 => ∃ r2 : Int32, v = some (.int r2) ∧ ((x4 < r2 → Q (some (.long 0)) m1) ∧ (¬ x4 < r2 → ((13 ≤ x4 → Q (some (.long 0)) m1) ∧ (¬ 13 ≤ x4 → Sp E MX10_isTown [.int x1] m1 (fun v m5 => ∃ r6 : Int32, v = some (.int r6) ∧ ((r6 = 0 → Q (some (.long 0)) m5) ∧ (¬ r6 = 0 → Sp E MX10_isTown [.int x3] m5 (fun v m8 => ∃ r9 : Int32, v = some (.int r9) ∧ ((¬ r9 = 0 → Sp E MX9_joinTowns [.ref 42] m8 (fun v m11 => v = none ∧ Sp E MX9_countRounds [.ref 42, .int x4] m11 (fun v m12 => v = none ∧ Sp E MJ7_fill_d0a16 [.ref 77, .long 0] m12 (fun v m13 => v = none ∧ Sp E MX9_countFrom [.ref 42, .int x1, .int ((-1)), .int x4] (mJ m13 77 0 1) (fun v m14 => v = none ∧ Ex E MX9_number Q 68 [(0, .ref 42), (1, .int x1), (2, .ref x2), (3, .int x3), (4, .int x4), (5, .int 0)] [] m14))))) ∧ (r9 = 0 → Q (some (.long 0)) m8)))))))))))) : Ex E MX9_number Q 0 [(0, .ref 42), (1, .int x1), (2, .ref x2), (3, .int x3), (4, .int x4)] [] μ := by
  refine x_aload_n 2 rfl rfl (dk zX9_number 0 rfl) ?_
  refine x_callV (as := []) (o := x2) (ci := 5) (st := []) rfl okRX9_41 npX5_size ⟨Nat.le_of_ble_eq_true rfl, Nat.le_of_ble_eq_true rfl⟩ hk2 (by decide) rfl (Nat.le_of_ble_eq_true rfl) (dk zX9_number 1 rfl) ?_
  refine h.mono ?_
  rintro _ m1 ⟨r2, rfl, hm1⟩
  show Ex E MX9_number Q 4 [(0, .ref 42), (1, .int x1), (2, .ref x2), (3, .int x3), (4, .int x4)] [.int r2] m1
  refine x_iload 4 rfl (dk zX9_number 2 rfl) ?_
  refine x_icmp_gt (tgt := 30) (by decide) (dk zX9_number 3 rfl) (fun c3 => ?_) (fun c3 => ?_)
  · have hc3t := hm1.1 c3
    refine x_lconst (v := 0) (by decide) (dk zX9_number 13 rfl) ?_
    exact x_lret rfl (dk zX9_number 14 rfl) hc3t
  · have hc3f := hm1.2 c3
    refine x_iload 4 rfl (dk zX9_number 4 rfl) ?_
    refine x_bipush (v := 13) (by decide) (dk zX9_number 5 rfl) ?_
    refine x_icmp_ge (tgt := 30) (by decide) (dk zX9_number 6 rfl) (fun c4 => ?_) (fun c4 => ?_)
    · have hc4t := hc3f.1 c4
      refine x_lconst (v := 0) (by decide) (dk zX9_number 13 rfl) ?_
      exact x_lret rfl (dk zX9_number 14 rfl) hc4t
    · have hc4f := hc3f.2 c4
      refine x_iload_n 1 rfl rfl (dk zX9_number 7 rfl) ?_
      refine x_callSN (M' := MX10_isTown) (as := [.int x1]) (st := []) (own := RX9) (host := RX10) rfl (fun _ h => h.2.2) wcX10_isTown wsX10_isTown wi0 nh0.1 nh0.2 npX10_isTown ⟨Nat.le_of_ble_eq_true rfl, Nat.le_of_ble_eq_true rfl⟩ (Nat.le_of_ble_eq_true rfl) (dk zX9_number 8 rfl) ?_
      refine hc4f.mono ?_
      rintro _ m5 ⟨r6, rfl, hm5⟩
      show Ex E MX9_number Q 20 [(0, .ref 42), (1, .int x1), (2, .ref x2), (3, .int x3), (4, .int x4)] [.int r6] m5
      refine x_if_eq (tgt := 30) (by decide) (dk zX9_number 9 rfl) (fun c7 => ?_) (fun c7 => ?_)
      · have hc7t := hm5.1 c7
        refine x_lconst (v := 0) (by decide) (dk zX9_number 13 rfl) ?_
        exact x_lret rfl (dk zX9_number 14 rfl) hc7t
      · have hc7f := hm5.2 c7
        refine x_iload_n 3 rfl rfl (dk zX9_number 10 rfl) ?_
        refine x_callSN (M' := MX10_isTown) (as := [.int x3]) (st := []) (own := RX9) (host := RX10) rfl (fun _ h => h.2.2) wcX10_isTown wsX10_isTown wi0 nh0.1 nh0.2 npX10_isTown ⟨Nat.le_of_ble_eq_true rfl, Nat.le_of_ble_eq_true rfl⟩ (Nat.le_of_ble_eq_true rfl) (dk zX9_number 11 rfl) ?_
        refine hc7f.mono ?_
        rintro _ m8 ⟨r9, rfl, hm8⟩
        show Ex E MX9_number Q 27 [(0, .ref 42), (1, .int x1), (2, .ref x2), (3, .int x3), (4, .int x4)] [.int r9] m8
        refine x_if_ne (tgt := 32) (by decide) (dk zX9_number 12 rfl) (fun c10 => ?_) (fun c10 => ?_)
        · have hc10t := hm8.1 c10
          refine x_aload_n 0 rfl rfl (dk zX9_number 15 rfl) ?_
          refine x_callV (as := []) (o := 42) (ci := 9) (st := []) rfl okRX9_51 npX9_joinTowns ⟨Nat.le_of_ble_eq_true rfl, Nat.le_of_ble_eq_true rfl⟩ k42 (by decide) rfl (Nat.le_of_ble_eq_true rfl) (dk zX9_number 16 rfl) ?_
          refine hc10t.mono ?_
          rintro _ m11 ⟨rfl, hm11⟩
          show Ex E MX9_number Q 36 [(0, .ref 42), (1, .int x1), (2, .ref x2), (3, .int x3), (4, .int x4)] [] m11
          refine x_aload_n 0 rfl rfl (dk zX9_number 17 rfl) ?_
          refine x_iload 4 rfl (dk zX9_number 18 rfl) ?_
          refine x_callV (as := [.int x4]) (o := 42) (ci := 9) (st := []) rfl okRX9_54 npX9_countRounds ⟨Nat.le_of_ble_eq_true rfl, Nat.le_of_ble_eq_true rfl⟩ k42 (by decide) rfl (Nat.le_of_ble_eq_true rfl) (dk zX9_number 19 rfl) ?_
          refine hm11.mono ?_
          rintro _ m12 ⟨rfl, hm12⟩
          show Ex E MX9_number Q 42 [(0, .ref 42), (1, .int x1), (2, .ref x2), (3, .int x3), (4, .int x4)] [] m12
          refine x_aload_n 0 rfl rfl (dk zX9_number 20 rfl) ?_
          refine gf9_6 (r := 77) rfl k42 r42_6 (dk zX9_number 21 rfl) ?_
          refine x_lconst (v := 0) (by decide) (dk zX9_number 22 rfl) ?_
          refine x_callS (as := [.ref 77, .long 0]) (st := []) rfl okRX9_58 npJ7_fill_d0a16 ⟨Nat.le_of_ble_eq_true rfl, Nat.le_of_ble_eq_true rfl⟩ (Nat.le_of_ble_eq_true rfl) (dk zX9_number 23 rfl) ?_
          refine hm12.mono ?_
          rintro _ m13 ⟨rfl, hm13⟩
          show Ex E MX9_number Q 50 [(0, .ref 42), (1, .int x1), (2, .ref x2), (3, .int x3), (4, .int x4)] [] m13
          refine x_aload_n 0 rfl rfl (dk zX9_number 24 rfl) ?_
          refine gf9_6 (r := 77) rfl k42 r42_6 (dk zX9_number 25 rfl) ?_
          refine x_iconst (v := 0) (by decide) (dk zX9_number 26 rfl) ?_
          refine x_lconst (v := 1) (by decide) (dk zX9_number 27 rfl) ?_
          refine y_last (j := 0) k77 l77 (by unfold vp_in; decide) (by decide) (dk zX9_number 28 rfl) ?_
          refine x_aload_n 0 rfl rfl (dk zX9_number 29 rfl) ?_
          refine x_iload_n 1 rfl rfl (dk zX9_number 30 rfl) ?_
          refine x_iconst (v := -1) (by decide) (dk zX9_number 31 rfl) ?_
          refine x_iload 4 rfl (dk zX9_number 32 rfl) ?_
          refine x_callV (as := [.int x1, .int ((-1)), .int x4]) (o := 42) (ci := 9) (st := []) rfl okRX9_64 npX9_countFrom ⟨Nat.le_of_ble_eq_true rfl, Nat.le_of_ble_eq_true rfl⟩ k42 (by decide) rfl (Nat.le_of_ble_eq_true rfl) (dk zX9_number 33 rfl) ?_
          refine hm13.mono ?_
          rintro _ m14 ⟨rfl, hm14⟩
          show Ex E MX9_number Q 65 [(0, .ref 42), (1, .int x1), (2, .ref x2), (3, .int x3), (4, .int x4)] [] m14
          refine x_iconst (v := 0) (by decide) (dk zX9_number 34 rfl) ?_
          refine x_istoreG (l' := [(0, .ref 42), (1, .int x1), (2, .ref x2), (3, .int x3), (4, .int x4), (5, .int 0)]) [1, 2, 3, 4, 5, 0] rfl (by decide) (dk zX9_number 35 rfl) ?_
          exact hm14
        · have hc10f := hm8.2 c10
          refine x_lconst (v := 0) (by decide) (dk zX9_number 13 rfl) ?_
          exact x_lret rfl (dk zX9_number 14 rfl) hc10f
set_option maxRecDepth 20000 in
set_option maxHeartbeats 2000000 in
theorem gX9_number_68 {E : EV} {Q : Po} {μ : Mem} {x1 : Int32} {x2 : Nat} {x3 : Int32} {x4 : Int32} {x5 : Int32} (hk_x2 : kd x2 = 5) (h : Sp E MX5_size [.ref x2] μ (fun v m1 => ∃ r2 : Int32, v = some (.int r2) ∧ ((r2 ≤ x5 → vp_in ((x4 * 8) + x3) 104 ∧ (Q (some (.long (m1.2 76 (((x4 * 8) + x3).toNatClampNeg)))) m1)) ∧ (¬ r2 ≤ x5 → Sp E MX5_at [.ref x2, .int x5] m1 (fun v m5 => ∃ r6 : Int32, v = some (.int r6) ∧ Sp E MX3_isOpen [.ref 1, .int r6] m5 (fun v m7 => ∃ r8 : Int32, v = some (.int r8) ∧ ((¬ r8 = 0 → Sp E MX9_stampForGood [.ref 42, .int r6, .int x4] m7 (fun v m10 => v = none ∧ Sp E MX3_to [.ref 1, .int r6] m10 (fun v m11 => ∃ r12 : Int32, v = some (.int r12) ∧ Sp E MX9_countFrom [.ref 42, .int r12, .int r6, .int x4] m11 (fun v m13 => v = none ∧ ∀ v14 : Int32, v14 = x5 + 1 → Ex E MX9_number Q 68 [(0, .ref 42), (1, .int x1), (2, .ref x2), (3, .int x3), (4, .int x4), (5, .int v14)] [] m13)))) ∧ (r8 = 0 → Q (some (.long 0)) m7)))))))) : Ex E MX9_number Q 68 [(0, .ref 42), (1, .int x1), (2, .ref x2), (3, .int x3), (4, .int x4), (5, .int x5)] [] μ := by
  refine x_iload 5 rfl (dk zX9_number 36 rfl) ?_
  refine x_aload_n 2 rfl rfl (dk zX9_number 37 rfl) ?_
  refine x_callV (as := []) (o := x2) (ci := 5) (st := [.int x5]) rfl okRX9_41 npX5_size ⟨Nat.le_of_ble_eq_true rfl, Nat.le_of_ble_eq_true rfl⟩ hk_x2 (by decide) rfl (Nat.le_of_ble_eq_true rfl) (dk zX9_number 38 rfl) ?_
  refine h.mono ?_
  rintro _ m1 ⟨r2, rfl, hm1⟩
  show Ex E MX9_number Q 74 [(0, .ref 42), (1, .int x1), (2, .ref x2), (3, .int x3), (4, .int x4), (5, .int x5)] [.int r2, .int x5] m1
  refine x_icmp_ge (tgt := 130) (by decide) (dk zX9_number 39 rfl) (fun c3 => ?_) (fun c3 => ?_)
  · have hc3t := hm1.1 c3
    refine x_aload_n 0 rfl rfl (dk zX9_number 65 rfl) ?_
    refine gf9_5 (r := 76) rfl k42 r42_5 (dk zX9_number 66 rfl) ?_
    refine x_iload 4 rfl (dk zX9_number 67 rfl) ?_
    refine x_bipush (v := 8) (by decide) (dk zX9_number 68 rfl) ?_
    refine x_imul (dk zX9_number 69 rfl) ?_
    refine x_iload_n 3 rfl rfl (dk zX9_number 70 rfl) ?_
    refine x_iadd (dk zX9_number 71 rfl) ?_
    have b4 := hc3t.1
    have hb4 := hc3t.2
    refine y_lald (j := ((x4 * 8) + x3).toNatClampNeg) k76 l76 b4 rfl (dk zX9_number 72 rfl) ?_
    exact x_lret rfl (dk zX9_number 73 rfl) hb4
  · have hc3f := hm1.2 c3
    refine x_aload_n 2 rfl rfl (dk zX9_number 40 rfl) ?_
    refine x_iload 5 rfl (dk zX9_number 41 rfl) ?_
    refine x_callV (as := [.int x5]) (o := x2) (ci := 5) (st := []) rfl okRX9_68 npX5_at ⟨Nat.le_of_ble_eq_true rfl, Nat.le_of_ble_eq_true rfl⟩ hk_x2 (by decide) rfl (Nat.le_of_ble_eq_true rfl) (dk zX9_number 42 rfl) ?_
    refine hc3f.mono ?_
    rintro _ m5 ⟨r6, rfl, hm5⟩
    show Ex E MX9_number Q 83 [(0, .ref 42), (1, .int x1), (2, .ref x2), (3, .int x3), (4, .int x4), (5, .int x5)] [.int r6] m5
    refine x_istoreG (l' := [(0, .ref 42), (1, .int x1), (2, .ref x2), (3, .int x3), (4, .int x4), (5, .int x5), (6, .int r6)]) [1, 2, 3, 4, 5, 6, 0] rfl (by decide) (dk zX9_number 43 rfl) ?_
    refine x_aload_n 0 rfl rfl (dk zX9_number 44 rfl) ?_
    refine gf9_0 (r := 1) rfl k42 r42_0 (dk zX9_number 45 rfl) ?_
    refine x_iload 6 rfl (dk zX9_number 46 rfl) ?_
    refine x_callV (as := [.int r6]) (o := 1) (ci := 3) (st := []) rfl okRX9_72 npX3_isOpen ⟨Nat.le_of_ble_eq_true rfl, Nat.le_of_ble_eq_true rfl⟩ k1 (by decide) rfl (Nat.le_of_ble_eq_true rfl) (dk zX9_number 47 rfl) ?_
    refine hm5.mono ?_
    rintro _ m7 ⟨r8, rfl, hm7⟩
    show Ex E MX9_number Q 94 [(0, .ref 42), (1, .int x1), (2, .ref x2), (3, .int x3), (4, .int x4), (5, .int x5), (6, .int r6)] [.int r8] m7
    refine x_if_ne (tgt := 99) (by decide) (dk zX9_number 48 rfl) (fun c9 => ?_) (fun c9 => ?_)
    · have hc9t := hm7.1 c9
      refine x_aload_n 0 rfl rfl (dk zX9_number 51 rfl) ?_
      refine x_iload 6 rfl (dk zX9_number 52 rfl) ?_
      refine x_iload 4 rfl (dk zX9_number 53 rfl) ?_
      refine x_callV (as := [.int r6, .int x4]) (o := 42) (ci := 9) (st := []) rfl okRX9_77 npX9_stampForGood ⟨Nat.le_of_ble_eq_true rfl, Nat.le_of_ble_eq_true rfl⟩ k42 (by decide) rfl (Nat.le_of_ble_eq_true rfl) (dk zX9_number 54 rfl) ?_
      refine hc9t.mono ?_
      rintro _ m10 ⟨rfl, hm10⟩
      show Ex E MX9_number Q 107 [(0, .ref 42), (1, .int x1), (2, .ref x2), (3, .int x3), (4, .int x4), (5, .int x5), (6, .int r6)] [] m10
      refine x_aload_n 0 rfl rfl (dk zX9_number 55 rfl) ?_
      refine x_aload_n 0 rfl rfl (dk zX9_number 56 rfl) ?_
      refine gf9_0 (r := 1) rfl k42 r42_0 (dk zX9_number 57 rfl) ?_
      refine x_iload 6 rfl (dk zX9_number 58 rfl) ?_
      refine x_callV (as := [.int r6]) (o := 1) (ci := 3) (st := [.ref 42]) rfl okRX9_81 npX3_to ⟨Nat.le_of_ble_eq_true rfl, Nat.le_of_ble_eq_true rfl⟩ k1 (by decide) rfl (Nat.le_of_ble_eq_true rfl) (dk zX9_number 59 rfl) ?_
      refine hm10.mono ?_
      rintro _ m11 ⟨r12, rfl, hm11⟩
      show Ex E MX9_number Q 117 [(0, .ref 42), (1, .int x1), (2, .ref x2), (3, .int x3), (4, .int x4), (5, .int x5), (6, .int r6)] [.int r12, .ref 42] m11
      refine x_iload 6 rfl (dk zX9_number 60 rfl) ?_
      refine x_iload 4 rfl (dk zX9_number 61 rfl) ?_
      refine x_callV (as := [.int r12, .int r6, .int x4]) (o := 42) (ci := 9) (st := []) rfl okRX9_64 npX9_countFrom ⟨Nat.le_of_ble_eq_true rfl, Nat.le_of_ble_eq_true rfl⟩ k42 (by decide) rfl (Nat.le_of_ble_eq_true rfl) (dk zX9_number 62 rfl) ?_
      refine hm11.mono ?_
      rintro _ m13 ⟨rfl, hm13⟩
      show Ex E MX9_number Q 124 [(0, .ref 42), (1, .int x1), (2, .ref x2), (3, .int x3), (4, .int x4), (5, .int x5), (6, .int r6)] [] m13
      obtain ⟨v14, ev14⟩ : ∃ y : Int32, y = x5 + 1 := ⟨_, rfl⟩
      have hv14 := hm13 v14 ev14
      refine x_iinc (v := v14) (l' := [(0, .ref 42), (1, .int x1), (2, .ref x2), (3, .int x3), (4, .int x4), (5, .int v14), (6, .int r6)]) 5 rfl (by rw [ev14]; rfl) [1, 2, 3, 4, 5, 0, 6] rfl (by decide) (dk zX9_number 63 rfl) ?_
      refine x_goto (tgt := 68) (by decide) (dk zX9_number 64 rfl) ?_
      exact x_sub [0, 1, 2, 3, 4, 5] rfl hv14
    · have hc9f := hm7.2 c9
      refine x_lconst (v := 0) (by decide) (dk zX9_number 49 rfl) ?_
      exact x_lret rfl (dk zX9_number 50 rfl) hc9f
