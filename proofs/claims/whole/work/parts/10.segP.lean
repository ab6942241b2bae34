set_option maxRecDepth 20000 in
set_option maxHeartbeats 2000000 in
theorem gJ7_fill_53178_0 {E : EV} {Q : Po} {μ : Mem} {x0 : Nat} {n0 : Nat} {x1 : Int32} (hk0 : kd x0 = 20) (hn0 : ln x0 = n0) (h : ∀ v1 : Int32, v1 = nI n0 → Ex E MJ7_fill_53178 Q 5 [(0, .ref x0), (1, .int x1), (2, .int 0), (3, .int v1)] [] μ) : Ex E MJ7_fill_53178 Q 0 [(0, .ref x0), (1, .int x1)] [] μ := by
  refine x_iconst (v := 0) (by decide) (dk zJ7_fill_53178 0 rfl) ?_
  refine x_istore_n (k := 2) (l' := [(0, .ref x0), (1, .int x1), (2, .int 0)]) [1, 2, 0] rfl rfl (by decide) (dk zJ7_fill_53178 1 rfl) ?_
  refine x_aload_n 0 rfl rfl (dk zJ7_fill_53178 2 rfl) ?_
  refine x_alen (v := nI n0) (Or.inl hk0) hn0 rfl (dk zJ7_fill_53178 3 rfl) ?_
  refine x_topi (fun v1 ev1 => ?_)
  have hv1 := h v1 ev1
  refine x_istore_n (k := 3) (l' := [(0, .ref x0), (1, .int x1), (2, .int 0), (3, .int v1)]) [1, 2, 3, 0] rfl rfl (by decide) (dk zJ7_fill_53178 4 rfl) ?_
  exact hv1
set_option maxRecDepth 20000 in
set_option maxHeartbeats 2000000 in
theorem gJ7_fill_53178_5 {E : EV} {Q : Po} {μ : Mem} {x0 : Nat} {n_x0 : Nat} {x1 : Int32} {x2 : Int32} {x3 : Int32} (hk_x0 : kd x0 = 20) (hn_x0 : ln x0 = n_x0) (h : ((x3 ≤ x2 → Q none μ) ∧ (¬ x3 ≤ x2 → vp_in x2 n_x0 ∧ (∀ v3 : Int32, v3 = x2 + 1 → Ex E MJ7_fill_53178 Q 5 [(0, .ref x0), (1, .int x1), (2, .int v3), (3, .int x3)] [] (mI μ x0 x2.toNatClampNeg x1))))) : Ex E MJ7_fill_53178 Q 5 [(0, .ref x0), (1, .int x1), (2, .int x2), (3, .int x3)] [] μ := by
  refine x_iload_n 2 rfl rfl (dk zJ7_fill_53178 5 rfl) ?_
  refine x_iload_n 3 rfl rfl (dk zJ7_fill_53178 6 rfl) ?_
  refine x_icmp_ge (tgt := 20) (by decide) (dk zJ7_fill_53178 7 rfl) (fun c1 => ?_) (fun c1 => ?_)
  · have hc1t := h.1 c1
    exact x_vret rfl (dk zJ7_fill_53178 14 rfl) hc1t
  · have hc1f := h.2 c1
    refine x_aload_n 0 rfl rfl (dk zJ7_fill_53178 8 rfl) ?_
    refine x_iload_n 2 rfl rfl (dk zJ7_fill_53178 9 rfl) ?_
    refine x_iload_n 1 rfl rfl (dk zJ7_fill_53178 10 rfl) ?_
    have b2 := hc1f.1
    have hb2 := hc1f.2
    refine y_iast (j := x2.toNatClampNeg) hk_x0 hn_x0 b2 rfl (dk zJ7_fill_53178 11 rfl) ?_
    obtain ⟨v3, ev3⟩ : ∃ y : Int32, y = x2 + 1 := ⟨_, rfl⟩
    have hv3 := hb2 v3 ev3
    refine x_iinc (v := v3) (l' := [(0, .ref x0), (1, .int x1), (2, .int v3), (3, .int x3)]) 2 rfl (by rw [ev3]; rfl) [1, 2, 0, 3] rfl (by decide) (dk zJ7_fill_53178 12 rfl) ?_
    refine x_goto (tgt := 5) (by decide) (dk zJ7_fill_53178 13 rfl) ?_
    exact hv3
set_option maxRecDepth 20000 in
set_option maxHeartbeats 2000000 in
theorem gX5_size_0 {E : EV} {Q : Po} {μ : Mem} {x0 : Nat} (hk0 : kd x0 = 5) (h : Q (some (.int (μ.1 x0 1))) μ) : Ex E MX5_size Q 0 [(0, .ref x0)] [] μ := by
  refine x_aload_n 0 rfl rfl (dk zX5_size 0 rfl) ?_
  refine gf5_1 rfl hk0 (dk zX5_size 1 rfl) ?_
  exact x_iret (ty := .int) rfl rfl (dk zX5_size 2 rfl) h
set_option maxRecDepth 20000 in
set_option maxHeartbeats 2000000 in
theorem gX8_size_0 {E : EV} {Q : Po} {μ : Mem} {x0 : Nat} (hk0 : kd x0 = 8) (h : Q (some (.int (μ.1 x0 2))) μ) : Ex E MX8_size Q 0 [(0, .ref x0)] [] μ := by
  refine x_aload_n 0 rfl rfl (dk zX8_size 0 rfl) ?_
  refine gf8_2 rfl hk0 (dk zX8_size 1 rfl) ?_
  exact x_iret (ty := .int) rfl rfl (dk zX8_size 2 rfl) h
set_option maxRecDepth 20000 in
set_option maxHeartbeats 2000000 in
theorem gX8_at_0 {E : EV} {Q : Po} {μ : Mem} {x0 : Nat} {x1 : Int32} (hk0 : kd x0 = 8) (h : ((x1 < 0 → Q (some (.int ((-1)))) μ) ∧ (¬ x1 < 0 → (((μ.1 x0 2) ≤ x1 → Q (some (.int ((-1)))) μ) ∧ (¬ (μ.1 x0 2) ≤ x1 → vp_in x1 50 ∧ (Q (some (.int (μ.1 (x0 + 1) x1.toNatClampNeg))) μ)))))) : Ex E MX8_at Q 0 [(0, .ref x0), (1, .int x1)] [] μ := by
  refine x_iload_n 1 rfl rfl (dk zX8_at 0 rfl) ?_
  refine x_if_lt (tgt := 21) (by decide) (dk zX8_at 1 rfl) (fun c1 => ?_) (fun c1 => ?_)
  · have hc1t := h.1 c1
    refine x_iconst (v := -1) (by decide) (dk zX8_at 11 rfl) ?_
    exact x_iret (ty := .int) rfl rfl (dk zX8_at 12 rfl) hc1t
  · have hc1f := h.2 c1
    refine x_iload_n 1 rfl rfl (dk zX8_at 2 rfl) ?_
    refine x_aload_n 0 rfl rfl (dk zX8_at 3 rfl) ?_
    refine gf8_2 rfl hk0 (dk zX8_at 4 rfl) ?_
    refine x_icmp_ge (tgt := 21) (by decide) (dk zX8_at 5 rfl) (fun c2 => ?_) (fun c2 => ?_)
    · have hc2t := hc1f.1 c2
      refine x_iconst (v := -1) (by decide) (dk zX8_at 11 rfl) ?_
      exact x_iret (ty := .int) rfl rfl (dk zX8_at 12 rfl) hc2t
    · have hc2f := hc1f.2 c2
      refine x_aload_n 0 rfl rfl (dk zX8_at 6 rfl) ?_
      refine gf8_0 (r := x0 + 1) rfl hk0 (sT0 _ hk0) (dk zX8_at 7 rfl) ?_
      refine x_iload_n 1 rfl rfl (dk zX8_at 8 rfl) ?_
      have b3 := hc2f.1
      have hb3 := hc2f.2
      refine y_iald (j := x1.toNatClampNeg) (sT0k _ hk0) (sT0l _ hk0) b3 rfl (dk zX8_at 9 rfl) ?_
      refine x_goto (tgt := 22) (by decide) (dk zX8_at 10 rfl) ?_
      exact x_iret (ty := .int) rfl rfl (dk zX8_at 12 rfl) hb3
set_option maxRecDepth 20000 in
set_option maxHeartbeats 2000000 in
theorem gX5_strikes_0 {E : EV} {Q : Po} {μ : Mem} {x0 : Nat} {x1 : Int32} (hk0 : kd x0 = 5) (h : (((μ.1 x0 1) ≤ 0 → Q (some (.int 0)) μ) ∧ (¬ (μ.1 x0 1) ≤ 0 → vp_in ((μ.1 x0 1) - 1) 60 ∧ (((¬ (μ.1 (x0 + 1) (((μ.1 x0 1) - 1).toNatClampNeg)) = (x1 ^^^ 1) → Q (some (.int 0)) μ) ∧ ((μ.1 (x0 + 1) (((μ.1 x0 1) - 1).toNatClampNeg)) = (x1 ^^^ 1) → Q (some (.int 1)) μ)))))) : Ex E MX5_strikes Q 0 [(0, .ref x0), (1, .int x1)] [] μ := by
  refine x_aload_n 0 rfl rfl (dk zX5_strikes 0 rfl) ?_
  refine gf5_1 rfl hk0 (dk zX5_strikes 1 rfl) ?_
  refine x_if_le (tgt := 28) (by decide) (dk zX5_strikes 2 rfl) (fun c1 => ?_) (fun c1 => ?_)
  · have hc1t := h.1 c1
    refine x_iconst (v := 0) (by decide) (dk zX5_strikes 16 rfl) ?_
    exact x_iret rfl rfl (dk zX5_strikes 17 rfl) hc1t
  · have hc1f := h.2 c1
    refine x_aload_n 0 rfl rfl (dk zX5_strikes 3 rfl) ?_
    refine gf5_0 (r := x0 + 1) rfl hk0 (sP0 _ hk0) (dk zX5_strikes 4 rfl) ?_
    refine x_aload_n 0 rfl rfl (dk zX5_strikes 5 rfl) ?_
    refine gf5_1 rfl hk0 (dk zX5_strikes 6 rfl) ?_
    refine x_iconst (v := 1) (by decide) (dk zX5_strikes 7 rfl) ?_
    refine x_isub (dk zX5_strikes 8 rfl) ?_
    have b2 := hc1f.1
    have hb2 := hc1f.2
    refine y_iald (j := ((μ.1 x0 1) - 1).toNatClampNeg) (sP0k _ hk0) (sP0l _ hk0) b2 rfl (dk zX5_strikes 9 rfl) ?_
    refine x_iload_n 1 rfl rfl (dk zX5_strikes 10 rfl) ?_
    refine x_iconst (v := 1) (by decide) (dk zX5_strikes 11 rfl) ?_
    refine x_ixor (dk zX5_strikes 12 rfl) ?_
    refine x_icmp_ne (tgt := 28) (by decide) (dk zX5_strikes 13 rfl) (fun c3 => ?_) (fun c3 => ?_)
    · have hc3t := hb2.1 c3
      refine x_iconst (v := 0) (by decide) (dk zX5_strikes 16 rfl) ?_
      exact x_iret rfl rfl (dk zX5_strikes 17 rfl) hc3t
    · have hc3f := hb2.2 c3
      refine x_iconst (v := 1) (by decide) (dk zX5_strikes 14 rfl) ?_
      refine x_goto (tgt := 29) (by decide) (dk zX5_strikes 15 rfl) ?_
      exact x_iret rfl rfl (dk zX5_strikes 17 rfl) hc3f
set_option maxRecDepth 20000 in
set_option maxHeartbeats 2000000 in
theorem gX5_stamp_0 {E : EV} {Q : Po} {μ : Mem} {x0 : Nat} {x1 : Int32} (hk0 : kd x0 = 5) (h : Sp E MX5_strikes [.ref x0, .int x1] μ (fun v m1 => ∃ r2 : Int32, v = some (.int r2) ∧ ((r2 = 0 → ((60 ≤ (m1.1 x0 1) → Q none m1) ∧ (¬ 60 ≤ (m1.1 x0 1) → vp_in (m1.1 x0 1) 60 ∧ (∀ v6 : Int32, v6 = ((mI m1 (x0 + 1) ((m1.1 x0 1).toNatClampNeg) x1).1 x0 1) + 1 → Q none (mI (mI m1 (x0 + 1) ((m1.1 x0 1).toNatClampNeg) x1) x0 1 v6))))) ∧ (¬ r2 = 0 → ∀ v7 : Int32, v7 = (m1.1 x0 1) - 1 → Q none (mI m1 x0 1 v7))))) : Ex E MX5_stamp Q 0 [(0, .ref x0), (1, .int x1)] [] μ := by
  refine x_aload_n 0 rfl rfl (dk zX5_stamp 0 rfl) ?_
  refine x_iload_n 1 rfl rfl (dk zX5_stamp 1 rfl) ?_
  refine x_callV (as := [.int x1]) (o := x0) (ci := 5) (st := []) rfl okRX5_19 npX5_strikes ⟨Nat.le_of_ble_eq_true rfl, Nat.le_of_ble_eq_true rfl⟩ hk0 (by decide) rfl (Nat.le_of_ble_eq_true rfl) (dk zX5_stamp 2 rfl) ?_
  refine h.mono ?_
  rintro _ m1 ⟨r2, rfl, hm1⟩
  show Ex E MX5_stamp Q 5 [(0, .ref x0), (1, .int x1)] [.int r2] m1
  refine x_if_eq (tgt := 21) (by decide) (dk zX5_stamp 3 rfl) (fun c3 => ?_) (fun c3 => ?_)
  · have hc3t := hm1.1 c3
    refine x_aload_n 0 rfl rfl (dk zX5_stamp 11 rfl) ?_
    refine gf5_1 rfl hk0 (dk zX5_stamp 12 rfl) ?_
    refine x_bipush (v := 60) (by decide) (dk zX5_stamp 13 rfl) ?_
    refine x_icmp_ge (tgt := 50) (by decide) (dk zX5_stamp 14 rfl) (fun c4 => ?_) (fun c4 => ?_)
    · have hc4t := hc3t.1 c4
      exact x_vret rfl (dk zX5_stamp 27 rfl) hc4t
    · have hc4f := hc3t.2 c4
      refine x_aload_n 0 rfl rfl (dk zX5_stamp 15 rfl) ?_
      refine gf5_0 (r := x0 + 1) rfl hk0 (sP0 _ hk0) (dk zX5_stamp 16 rfl) ?_
      refine x_aload_n 0 rfl rfl (dk zX5_stamp 17 rfl) ?_
      refine gf5_1 rfl hk0 (dk zX5_stamp 18 rfl) ?_
      refine x_iload_n 1 rfl rfl (dk zX5_stamp 19 rfl) ?_
      have b5 := hc4f.1
      have hb5 := hc4f.2
      refine y_iast (j := (m1.1 x0 1).toNatClampNeg) (sP0k _ hk0) (sP0l _ hk0) b5 rfl (dk zX5_stamp 20 rfl) ?_
      refine x_aload_n 0 rfl rfl (dk zX5_stamp 21 rfl) ?_
      refine x_dupr (dk zX5_stamp 22 rfl) ?_
      refine gf5_1 rfl hk0 (dk zX5_stamp 23 rfl) ?_
      refine x_iconst (v := 1) (by decide) (dk zX5_stamp 24 rfl) ?_
      refine x_iadd (dk zX5_stamp 25 rfl) ?_
      refine x_topi (fun v6 ev6 => ?_)
      have hv6 := hb5 v6 ev6
      refine pf5_1 rfl hk0 (dk zX5_stamp 26 rfl) ?_
      exact x_vret rfl (dk zX5_stamp 27 rfl) hv6
  · have hc3f := hm1.2 c3
    refine x_aload_n 0 rfl rfl (dk zX5_stamp 4 rfl) ?_
    refine x_dupr (dk zX5_stamp 5 rfl) ?_
    refine gf5_1 rfl hk0 (dk zX5_stamp 6 rfl) ?_
    refine x_iconst (v := 1) (by decide) (dk zX5_stamp 7 rfl) ?_
    refine x_isub (dk zX5_stamp 8 rfl) ?_
    refine x_topi (fun v7 ev7 => ?_)
    have hv7 := hc3f v7 ev7
    refine pf5_1 rfl hk0 (dk zX5_stamp 9 rfl) ?_
    refine x_goto (tgt := 50) (by decide) (dk zX5_stamp 10 rfl) ?_
    exact x_vret rfl (dk zX5_stamp 27 rfl) hv7
set_option maxRecDepth 20000 in
set_option maxHeartbeats 2000000 in
theorem gJ6_bitCount_0f7a4_0 {E : EV} {Q : Po} {μ : Mem} {x0 : Int32} (h : ∀ v1 : Int32, v1 = x0 - (((Int32.toUInt32 x0 >>> (Int32.toUInt32 1 &&& Int32.toUInt32 31)).toInt32) &&& ((1431655765))) → ∀ v2 : Int32, v2 = (v1 &&& ((858993459))) + (((Int32.toUInt32 v1 >>> (Int32.toUInt32 2 &&& Int32.toUInt32 31)).toInt32) &&& ((858993459))) → ∀ v3 : Int32, v3 = (v2 + ((Int32.toUInt32 v2 >>> (Int32.toUInt32 4 &&& Int32.toUInt32 31)).toInt32)) &&& ((252645135)) → ∀ v4 : Int32, v4 = v3 + ((Int32.toUInt32 v3 >>> (Int32.toUInt32 8 &&& Int32.toUInt32 31)).toInt32) → ∀ v5 : Int32, v5 = v4 + ((Int32.toUInt32 v4 >>> (Int32.toUInt32 16 &&& Int32.toUInt32 31)).toInt32) → Q (some (.int (v5 &&& 63))) μ) : Ex E MJ6_bitCount_0f7a4 Q 0 [(0, .int x0)] [] μ := by
  refine x_iload_n 0 rfl rfl (dk zJ6_bitCount_0f7a4 0 rfl) ?_
  refine x_iload_n 0 rfl rfl (dk zJ6_bitCount_0f7a4 1 rfl) ?_
  refine x_iconst (v := 1) (by decide) (dk zJ6_bitCount_0f7a4 2 rfl) ?_
  refine x_iushr (dk zJ6_bitCount_0f7a4 3 rfl) ?_
  refine x_ldcw (v := 1431655765) rfl wkRJ6_265 (dk zJ6_bitCount_0f7a4 4 rfl) ?_
  refine x_iand (dk zJ6_bitCount_0f7a4 5 rfl) ?_
  refine x_isub (dk zJ6_bitCount_0f7a4 6 rfl) ?_
  refine x_topi (fun v1 ev1 => ?_)
  have hv1 := h v1 ev1
  refine x_istore_n (k := 0) (l' := [(0, .int v1)]) [0] rfl rfl (by decide) (dk zJ6_bitCount_0f7a4 7 rfl) ?_
  refine x_iload_n 0 rfl rfl (dk zJ6_bitCount_0f7a4 8 rfl) ?_
  refine x_ldcw (v := 858993459) rfl wkRJ6_266 (dk zJ6_bitCount_0f7a4 9 rfl) ?_
  refine x_iand (dk zJ6_bitCount_0f7a4 10 rfl) ?_
  refine x_iload_n 0 rfl rfl (dk zJ6_bitCount_0f7a4 11 rfl) ?_
  refine x_iconst (v := 2) (by decide) (dk zJ6_bitCount_0f7a4 12 rfl) ?_
  refine x_iushr (dk zJ6_bitCount_0f7a4 13 rfl) ?_
  refine x_ldcw (v := 858993459) rfl wkRJ6_266 (dk zJ6_bitCount_0f7a4 14 rfl) ?_
  refine x_iand (dk zJ6_bitCount_0f7a4 15 rfl) ?_
  refine x_iadd (dk zJ6_bitCount_0f7a4 16 rfl) ?_
  refine x_topi (fun v2 ev2 => ?_)
  have hv2 := hv1 v2 ev2
  refine x_istore_n (k := 0) (l' := [(0, .int v2)]) [0] rfl rfl (by decide) (dk zJ6_bitCount_0f7a4 17 rfl) ?_
  refine x_iload_n 0 rfl rfl (dk zJ6_bitCount_0f7a4 18 rfl) ?_
  refine x_iload_n 0 rfl rfl (dk zJ6_bitCount_0f7a4 19 rfl) ?_
  refine x_iconst (v := 4) (by decide) (dk zJ6_bitCount_0f7a4 20 rfl) ?_
  refine x_iushr (dk zJ6_bitCount_0f7a4 21 rfl) ?_
  refine x_iadd (dk zJ6_bitCount_0f7a4 22 rfl) ?_
  refine x_ldcw (v := 252645135) rfl wkRJ6_267 (dk zJ6_bitCount_0f7a4 23 rfl) ?_
  refine x_iand (dk zJ6_bitCount_0f7a4 24 rfl) ?_
  refine x_topi (fun v3 ev3 => ?_)
  have hv3 := hv2 v3 ev3
  refine x_istore_n (k := 0) (l' := [(0, .int v3)]) [0] rfl rfl (by decide) (dk zJ6_bitCount_0f7a4 25 rfl) ?_
  refine x_iload_n 0 rfl rfl (dk zJ6_bitCount_0f7a4 26 rfl) ?_
  refine x_iload_n 0 rfl rfl (dk zJ6_bitCount_0f7a4 27 rfl) ?_
  refine x_bipush (v := 8) (by decide) (dk zJ6_bitCount_0f7a4 28 rfl) ?_
  refine x_iushr (dk zJ6_bitCount_0f7a4 29 rfl) ?_
  refine x_iadd (dk zJ6_bitCount_0f7a4 30 rfl) ?_
  refine x_topi (fun v4 ev4 => ?_)
  have hv4 := hv3 v4 ev4
  refine x_istore_n (k := 0) (l' := [(0, .int v4)]) [0] rfl rfl (by decide) (dk zJ6_bitCount_0f7a4 31 rfl) ?_
  refine x_iload_n 0 rfl rfl (dk zJ6_bitCount_0f7a4 32 rfl) ?_
  refine x_iload_n 0 rfl rfl (dk zJ6_bitCount_0f7a4 33 rfl) ?_
  refine x_bipush (v := 16) (by decide) (dk zJ6_bitCount_0f7a4 34 rfl) ?_
  refine x_iushr (dk zJ6_bitCount_0f7a4 35 rfl) ?_
  refine x_iadd (dk zJ6_bitCount_0f7a4 36 rfl) ?_
  refine x_topi (fun v5 ev5 => ?_)
  have hv5 := hv4 v5 ev5
  refine x_istore_n (k := 0) (l' := [(0, .int v5)]) [0] rfl rfl (by decide) (dk zJ6_bitCount_0f7a4 37 rfl) ?_
  refine x_iload_n 0 rfl rfl (dk zJ6_bitCount_0f7a4 38 rfl) ?_
  refine x_bipush (v := 63) (by decide) (dk zJ6_bitCount_0f7a4 39 rfl) ?_
  refine x_iand (dk zJ6_bitCount_0f7a4 40 rfl) ?_
  exact x_iret (ty := .int) rfl rfl (dk zJ6_bitCount_0f7a4 41 rfl) hv5
set_option maxRecDepth 20000 in
set_option maxHeartbeats 2000000 in
theorem gX5_at_0 {E : EV} {Q : Po} {μ : Mem} {x0 : Nat} {x1 : Int32} (hk0 : kd x0 = 5) (h : ((x1 < 0 → Q (some (.int ((-1)))) μ) ∧ (¬ x1 < 0 → (((μ.1 x0 1) ≤ x1 → Q (some (.int ((-1)))) μ) ∧ (¬ (μ.1 x0 1) ≤ x1 → vp_in x1 60 ∧ (Q (some (.int (μ.1 (x0 + 1) x1.toNatClampNeg))) μ)))))) : Ex E MX5_at Q 0 [(0, .ref x0), (1, .int x1)] [] μ := by
  refine x_iload_n 1 rfl rfl (dk zX5_at 0 rfl) ?_
  refine x_if_lt (tgt := 21) (by decide) (dk zX5_at 1 rfl) (fun c1 => ?_) (fun c1 => ?_)
  · have hc1t := h.1 c1
    refine x_iconst (v := -1) (by decide) (dk zX5_at 11 rfl) ?_
    exact x_iret (ty := .int) rfl rfl (dk zX5_at 12 rfl) hc1t
  · have hc1f := h.2 c1
    refine x_iload_n 1 rfl rfl (dk zX5_at 2 rfl) ?_
    refine x_aload_n 0 rfl rfl (dk zX5_at 3 rfl) ?_
    refine gf5_1 rfl hk0 (dk zX5_at 4 rfl) ?_
    refine x_icmp_ge (tgt := 21) (by decide) (dk zX5_at 5 rfl) (fun c2 => ?_) (fun c2 => ?_)
    · have hc2t := hc1f.1 c2
      refine x_iconst (v := -1) (by decide) (dk zX5_at 11 rfl) ?_
      exact x_iret (ty := .int) rfl rfl (dk zX5_at 12 rfl) hc2t
    · have hc2f := hc1f.2 c2
      refine x_aload_n 0 rfl rfl (dk zX5_at 6 rfl) ?_
      refine gf5_0 (r := x0 + 1) rfl hk0 (sP0 _ hk0) (dk zX5_at 7 rfl) ?_
      refine x_iload_n 1 rfl rfl (dk zX5_at 8 rfl) ?_
      have b3 := hc2f.1
      have hb3 := hc2f.2
      refine y_iald (j := x1.toNatClampNeg) (sP0k _ hk0) (sP0l _ hk0) b3 rfl (dk zX5_at 9 rfl) ?_
      refine x_goto (tgt := 22) (by decide) (dk zX5_at 10 rfl) ?_
      exact x_iret (ty := .int) rfl rfl (dk zX5_at 12 rfl) hb3
set_option maxRecDepth 20000 in
set_option maxHeartbeats 2000000 in
theorem gX5_empty_0 {E : EV} {Q : Po} {μ : Mem} {x0 : Nat} (hk0 : kd x0 = 5) (h : Q none (mI μ x0 1 0)) : Ex E MX5_empty Q 0 [(0, .ref x0)] [] μ := by
  refine x_aload_n 0 rfl rfl (dk zX5_empty 0 rfl) ?_
  refine x_iconst (v := 0) (by decide) (dk zX5_empty 1 rfl) ?_
  refine pf5_1 rfl hk0 (dk zX5_empty 2 rfl) ?_
  exact x_vret rfl (dk zX5_empty 3 rfl) h
set_option maxRecDepth 20000 in
set_option maxHeartbeats 2000000 in
theorem gX5_alike_0 {E : EV} {Q : Po} {μ : Mem} {x0 : Nat} {x1 : Nat} (hk0 : kd x0 = 5) (hk1 : kd x1 = 5) (h : Sp E MX5_size [.ref x1] μ (fun v m1 => ∃ r2 : Int32, v = some (.int r2) ∧ ∀ v3 : Int32, v3 = (if r2 < (μ.1 x0 1) then r2 else (μ.1 x0 1)) → Ex E MX5_alike Q 14 [(0, .ref x0), (1, .ref x1), (2, .int v3), (3, .int 0)] [] m1)) : Ex E MX5_alike Q 0 [(0, .ref x0), (1, .ref x1)] [] μ := by
  refine x_aload_n 0 rfl rfl (dk zX5_alike 0 rfl) ?_
  refine gf5_1 rfl hk0 (dk zX5_alike 1 rfl) ?_
  refine x_aload_n 1 rfl rfl (dk zX5_alike 2 rfl) ?_
  refine x_callV (as := []) (o := x1) (ci := 5) (st := [.int (μ.1 x0 1)]) rfl okRX5_23 npX5_size ⟨Nat.le_of_ble_eq_true rfl, Nat.le_of_ble_eq_true rfl⟩ hk1 (by decide) rfl (Nat.le_of_ble_eq_true rfl) (dk zX5_alike 3 rfl) ?_
  refine h.mono ?_
  rintro _ m1 ⟨r2, rfl, hm1⟩
  show Ex E MX5_alike Q 8 [(0, .ref x0), (1, .ref x1)] [.int r2, .int (μ.1 x0 1)] m1
  refine x_mmin rfl wmRX5_26 wmmin_s wmi wmmin_c (Nat.le_of_ble_eq_true rfl) (Nat.le_of_ble_eq_true rfl) (dk zX5_alike 4 rfl) ?_
  refine x_topi (fun v3 ev3 => ?_)
  have hv3 := hm1 v3 ev3
  refine x_istore_n (k := 2) (l' := [(0, .ref x0), (1, .ref x1), (2, .int v3)]) [1, 2, 0] rfl rfl (by decide) (dk zX5_alike 5 rfl) ?_
  refine x_iconst (v := 0) (by decide) (dk zX5_alike 6 rfl) ?_
  refine x_istore_n (k := 3) (l' := [(0, .ref x0), (1, .ref x1), (2, .int v3), (3, .int 0)]) [1, 2, 3, 0] rfl rfl (by decide) (dk zX5_alike 7 rfl) ?_
  exact hv3
set_option maxRecDepth 20000 in
set_option maxHeartbeats 2000000 in
theorem gX5_alike_14 {E : EV} {Q : Po} {μ : Mem} {x0 : Nat} {x1 : Nat} {x2 : Int32} {x3 : Int32} (hk_x0 : kd x0 = 5) (hk_x1 : kd x1 = 5) (h : ((x2 ≤ x3 → Q (some (.int x2)) μ) ∧ (¬ x2 ≤ x3 → Sp E MX5_at [.ref x0, .int x3] μ (fun v m2 => ∃ r3 : Int32, v = some (.int r3) ∧ Sp E MX5_at [.ref x1, .int x3] m2 (fun v m4 => ∃ r5 : Int32, v = some (.int r5) ∧ ((r3 = r5 → ∀ v7 : Int32, v7 = x3 + 1 → Ex E MX5_alike Q 14 [(0, .ref x0), (1, .ref x1), (2, .int x2), (3, .int v7)] [] m4) ∧ (¬ r3 = r5 → Q (some (.int x3)) m4))))))) : Ex E MX5_alike Q 14 [(0, .ref x0), (1, .ref x1), (2, .int x2), (3, .int x3)] [] μ := by
  refine x_iload_n 3 rfl rfl (dk zX5_alike 8 rfl) ?_
  refine x_iload_n 2 rfl rfl (dk zX5_alike 9 rfl) ?_
  refine x_icmp_ge (tgt := 40) (by decide) (dk zX5_alike 10 rfl) (fun c1 => ?_) (fun c1 => ?_)
  · have hc1t := h.1 c1
    refine x_iload_n 2 rfl rfl (dk zX5_alike 22 rfl) ?_
    exact x_iret (ty := .int) rfl rfl (dk zX5_alike 23 rfl) hc1t
  · have hc1f := h.2 c1
    refine x_aload_n 0 rfl rfl (dk zX5_alike 11 rfl) ?_
    refine x_iload_n 3 rfl rfl (dk zX5_alike 12 rfl) ?_
    refine x_callV (as := [.int x3]) (o := x0) (ci := 5) (st := []) rfl okRX5_32 npX5_at ⟨Nat.le_of_ble_eq_true rfl, Nat.le_of_ble_eq_true rfl⟩ hk_x0 (by decide) rfl (Nat.le_of_ble_eq_true rfl) (dk zX5_alike 13 rfl) ?_
    refine hc1f.mono ?_
    rintro _ m2 ⟨r3, rfl, hm2⟩
    show Ex E MX5_alike Q 24 [(0, .ref x0), (1, .ref x1), (2, .int x2), (3, .int x3)] [.int r3] m2
    refine x_aload_n 1 rfl rfl (dk zX5_alike 14 rfl) ?_
    refine x_iload_n 3 rfl rfl (dk zX5_alike 15 rfl) ?_
    refine x_callV (as := [.int x3]) (o := x1) (ci := 5) (st := [.int r3]) rfl okRX5_32 npX5_at ⟨Nat.le_of_ble_eq_true rfl, Nat.le_of_ble_eq_true rfl⟩ hk_x1 (by decide) rfl (Nat.le_of_ble_eq_true rfl) (dk zX5_alike 16 rfl) ?_
    refine hm2.mono ?_
    rintro _ m4 ⟨r5, rfl, hm4⟩
    show Ex E MX5_alike Q 29 [(0, .ref x0), (1, .ref x1), (2, .int x2), (3, .int x3)] [.int r5, .int r3] m4
    refine x_icmp_eq (tgt := 34) (by decide) (dk zX5_alike 17 rfl) (fun c6 => ?_) (fun c6 => ?_)
    · have hc6t := hm4.1 c6
      obtain ⟨v7, ev7⟩ : ∃ y : Int32, y = x3 + 1 := ⟨_, rfl⟩
      have hv7 := hc6t v7 ev7
      refine x_iinc (v := v7) (l' := [(0, .ref x0), (1, .ref x1), (2, .int x2), (3, .int v7)]) 3 rfl (by rw [ev7]; rfl) [1, 2, 3, 0] rfl (by decide) (dk zX5_alike 20 rfl) ?_
      refine x_goto (tgt := 14) (by decide) (dk zX5_alike 21 rfl) ?_
      exact hv7
    · have hc6f := hm4.2 c6
      refine x_iload_n 3 rfl rfl (dk zX5_alike 18 rfl) ?_
      exact x_iret (ty := .int) rfl rfl (dk zX5_alike 19 rfl) hc6f
set_option maxRecDepth 20000 in
set_option maxHeartbeats 2000000 in
theorem gJ7_fill_d0a16_0 {E : EV} {Q : Po} {μ : Mem} {x0 : Nat} {n0 : Nat} {x1 : Int64} (hk0 : kd x0 = 21) (hn0 : ln x0 = n0) (h : ∀ v1 : Int32, v1 = nI n0 → Ex E MJ7_fill_d0a16 Q 6 [(0, .ref x0), (1, .long x1), (3, .int 0), (4, .int v1)] [] μ) : Ex E MJ7_fill_d0a16 Q 0 [(0, .ref x0), (1, .long x1)] [] μ := by
  refine x_iconst (v := 0) (by decide) (dk zJ7_fill_d0a16 0 rfl) ?_
  refine x_istore_n (k := 3) (l' := [(0, .ref x0), (1, .long x1), (3, .int 0)]) [1, 2, 0] rfl rfl (by decide) (dk zJ7_fill_d0a16 1 rfl) ?_
  refine x_aload_n 0 rfl rfl (dk zJ7_fill_d0a16 2 rfl) ?_
  refine x_alen (v := nI n0) (Or.inr hk0) hn0 rfl (dk zJ7_fill_d0a16 3 rfl) ?_
  refine x_topi (fun v1 ev1 => ?_)
  have hv1 := h v1 ev1
  refine x_istoreG (l' := [(0, .ref x0), (1, .long x1), (3, .int 0), (4, .int v1)]) [1, 2, 3, 0] rfl (by decide) (dk zJ7_fill_d0a16 4 rfl) ?_
  exact hv1
set_option maxRecDepth 20000 in
set_option maxHeartbeats 2000000 in
theorem gJ7_fill_d0a16_6 {E : EV} {Q : Po} {μ : Mem} {x0 : Nat} {n_x0 : Nat} {x1 : Int64} {x3 : Int32} {x4 : Int32} (hk_x0 : kd x0 = 21) (hn_x0 : ln x0 = n_x0) (h : ((x4 ≤ x3 → Q none μ) ∧ (¬ x4 ≤ x3 → vp_in x3 n_x0 ∧ (∀ v3 : Int32, v3 = x3 + 1 → Ex E MJ7_fill_d0a16 Q 6 [(0, .ref x0), (1, .long x1), (3, .int v3), (4, .int x4)] [] (mJ μ x0 x3.toNatClampNeg x1))))) : Ex E MJ7_fill_d0a16 Q 6 [(0, .ref x0), (1, .long x1), (3, .int x3), (4, .int x4)] [] μ := by
  refine x_iload_n 2 rfl rfl (dk zJ7_fill_d0a16 5 rfl) ?_
  refine x_iload 3 rfl (dk zJ7_fill_d0a16 6 rfl) ?_
  refine x_icmp_ge (tgt := 22) (by decide) (dk zJ7_fill_d0a16 7 rfl) (fun c1 => ?_) (fun c1 => ?_)
  · have hc1t := h.1 c1
    exact x_vret rfl (dk zJ7_fill_d0a16 14 rfl) hc1t
  · have hc1f := h.2 c1
    refine x_aload_n 0 rfl rfl (dk zJ7_fill_d0a16 8 rfl) ?_
    refine x_iload_n 2 rfl rfl (dk zJ7_fill_d0a16 9 rfl) ?_
    refine x_lload_n 1 rfl rfl (dk zJ7_fill_d0a16 10 rfl) ?_
    have b2 := hc1f.1
    have hb2 := hc1f.2
    refine y_last (j := x3.toNatClampNeg) hk_x0 hn_x0 b2 rfl (dk zJ7_fill_d0a16 11 rfl) ?_
    obtain ⟨v3, ev3⟩ : ∃ y : Int32, y = x3 + 1 := ⟨_, rfl⟩
    have hv3 := hb2 v3 ev3
    refine x_iinc (v := v3) (l' := [(0, .ref x0), (1, .long x1), (3, .int v3), (4, .int x4)]) 2 rfl (by rw [ev3]; rfl) [1, 2, 0, 3] rfl (by decide) (dk zJ7_fill_d0a16 12 rfl) ?_
    refine x_goto (tgt := 6) (by decide) (dk zJ7_fill_d0a16 13 rfl) ?_
    exact hv3
set_option maxRecDepth 20000 in
set_option maxHeartbeats 2000000 in
theorem gX7_find_0 {E : EV} {Q : Po} {μ : Mem} {x1 : Int32} (h : Q (some (.int (((-10)) - x1))) (mI μ 107 3 x1)) : Ex E MX7_find Q 0 [(0, .ref 107), (1, .int x1)] [] μ := by
  refine x_aload_n 0 rfl rfl (dk zX7_find 0 rfl) ?_
  refine x_iload_n 1 rfl rfl (dk zX7_find 1 rfl) ?_
  refine pf7_3 rfl k107 (dk zX7_find 2 rfl) ?_
  refine x_bipush (v := -10) (by decide) (dk zX7_find 3 rfl) ?_
  refine x_iload_n 1 rfl rfl (dk zX7_find 4 rfl) ?_
  refine x_isub (dk zX7_find 5 rfl) ?_
  exact x_iret (ty := .int) rfl rfl (dk zX7_find 6 rfl) h
set_option maxRecDepth 20000 in
set_option maxHeartbeats 2000000 in
theorem gX7_latestFinding_0 {E : EV} {Q : Po} {μ : Mem}  (h : Q (some (.int (μ.1 107 3))) μ) : Ex E MX7_latestFinding Q 0 [(0, .ref 107)] [] μ := by
  refine x_aload_n 0 rfl rfl (dk zX7_latestFinding 0 rfl) ?_
  refine gf7_3 rfl k107 (dk zX7_latestFinding 1 rfl) ?_
  exact x_iret (ty := .int) rfl rfl (dk zX7_latestFinding 2 rfl) h
set_option maxRecDepth 20000 in
set_option maxHeartbeats 2000000 in
theorem gX7_isLost_0 {E : EV} {Q : Po} {μ : Mem} {x1 : Int32} (h : vp_in x1 4 ∧ (((¬ (μ.1 114 x1.toNatClampNeg) = ((-1)) → Q (some (.int 0)) μ) ∧ ((μ.1 114 x1.toNatClampNeg) = ((-1)) → Q (some (.int 1)) μ)))) : Ex E MX7_isLost Q 0 [(0, .ref 107), (1, .int x1)] [] μ := by
  refine x_aload_n 0 rfl rfl (dk zX7_isLost 0 rfl) ?_
  refine gf7_2 (r := 114) rfl k107 r107_2 (dk zX7_isLost 1 rfl) ?_
  refine x_iload_n 1 rfl rfl (dk zX7_isLost 2 rfl) ?_
  have b1 := h.1
  have hb1 := h.2
  refine y_iald (j := x1.toNatClampNeg) k114 l114 b1 rfl (dk zX7_isLost 3 rfl) ?_
  refine x_iconst (v := -1) (by decide) (dk zX7_isLost 4 rfl) ?_
  refine x_icmp_ne (tgt := 14) (by decide) (dk zX7_isLost 5 rfl) (fun c2 => ?_) (fun c2 => ?_)
  · have hc2t := hb1.1 c2
    refine x_iconst (v := 0) (by decide) (dk zX7_isLost 8 rfl) ?_
    exact x_iret rfl rfl (dk zX7_isLost 9 rfl) hc2t
  · have hc2f := hb1.2 c2
    refine x_iconst (v := 1) (by decide) (dk zX7_isLost 6 rfl) ?_
    refine x_goto (tgt := 15) (by decide) (dk zX7_isLost 7 rfl) ?_
    exact x_iret rfl rfl (dk zX7_isLost 9 rfl) hc2f
set_option maxRecDepth 20000 in
set_option maxHeartbeats 2000000 in
theorem gX7_size_0 {E : EV} {Q : Po} {μ : Mem} {x1 : Int32} (h : vp_in x1 4 ∧ (Q (some (.int (μ.1 113 x1.toNatClampNeg))) μ)) : Ex E MX7_size Q 0 [(0, .ref 107), (1, .int x1)] [] μ := by
  refine x_aload_n 0 rfl rfl (dk zX7_size 0 rfl) ?_
  refine gf7_1 (r := 113) rfl k107 r107_1 (dk zX7_size 1 rfl) ?_
  refine x_iload_n 1 rfl rfl (dk zX7_size 2 rfl) ?_
  have b1 := h.1
  have hb1 := h.2
  refine y_iald (j := x1.toNatClampNeg) k113 l113 b1 rfl (dk zX7_size 3 rfl) ?_
  exact x_iret (ty := .int) rfl rfl (dk zX7_size 4 rfl) hb1
set_option maxRecDepth 20000 in
set_option maxHeartbeats 2000000 in
theorem gX7_make_0 {E : EV} {Q : Po} {μ : Mem} {x1 : Int32} {x2 : Int32} {x3 : Int32} (h : vp_in x1 4 ∧ (Sp E MJ7_fill_53178 [.ref (109 + x1.toNatClampNeg), .int 0] (mI (mI μ 114 x1.toNatClampNeg x2) 113 x1.toNatClampNeg x3) (fun v m2 => v = none ∧ Q none m2))) : Ex E MX7_make Q 0 [(0, .ref 107), (1, .int x1), (2, .int x2), (3, .int x3)] [] μ := by
  refine x_aload_n 0 rfl rfl (dk zX7_make 0 rfl) ?_
  refine gf7_2 (r := 114) rfl k107 r107_2 (dk zX7_make 1 rfl) ?_
  refine x_iload_n 1 rfl rfl (dk zX7_make 2 rfl) ?_
  refine x_iload_n 2 rfl rfl (dk zX7_make 3 rfl) ?_
  have b1 := h.1
  have hb1 := h.2
  refine y_iast (j := x1.toNatClampNeg) k114 l114 b1 rfl (dk zX7_make 4 rfl) ?_
  refine x_aload_n 0 rfl rfl (dk zX7_make 5 rfl) ?_
  refine gf7_1 (r := 113) rfl k107 r107_1 (dk zX7_make 6 rfl) ?_
  refine x_iload_n 1 rfl rfl (dk zX7_make 7 rfl) ?_
  refine x_iload_n 3 rfl rfl (dk zX7_make 8 rfl) ?_
  refine y_iast (j := x1.toNatClampNeg) k113 l113 b1 rfl (dk zX7_make 9 rfl) ?_
  refine x_aload_n 0 rfl rfl (dk zX7_make 10 rfl) ?_
  refine gf7_0 (r := 108) rfl k107 r107_0 (dk zX7_make 11 rfl) ?_
  refine x_iload_n 1 rfl rfl (dk zX7_make 12 rfl) ?_
  refine y_aaldI (b := 109 + x1.toNatClampNeg) k108 l108 b1 (by omega) (dk zX7_make 13 rfl) ?_
  refine x_iconst (v := 0) (by decide) (dk zX7_make 14 rfl) ?_
  refine x_callS (as := [.ref (109 + x1.toNatClampNeg), .int 0]) (st := []) rfl okRX7_23 npJ7_fill_53178 ⟨Nat.le_of_ble_eq_true rfl, Nat.le_of_ble_eq_true rfl⟩ (Nat.le_of_ble_eq_true rfl) (dk zX7_make 15 rfl) ?_
  refine hb1.mono ?_
  rintro _ m2 ⟨rfl, hm2⟩
  show Ex E MX7_make Q 24 [(0, .ref 107), (1, .int x1), (2, .int x2), (3, .int x3)] [] m2
  exact x_vret rfl (dk zX7_make 16 rfl) hm2
set_option maxRecDepth 20000 in
set_option maxHeartbeats 2000000 in
theorem gX7_drop_0 {E : EV} {Q : Po} {μ : Mem} {x1 : Int32} (h : vp_in x1 4 ∧ (Q none (mI (mI μ 114 x1.toNatClampNeg ((-1))) 113 x1.toNatClampNeg 0))) : Ex E MX7_drop Q 0 [(0, .ref 107), (1, .int x1)] [] μ := by
  refine x_aload_n 0 rfl rfl (dk zX7_drop 0 rfl) ?_
  refine gf7_2 (r := 114) rfl k107 r107_2 (dk zX7_drop 1 rfl) ?_
  refine x_iload_n 1 rfl rfl (dk zX7_drop 2 rfl) ?_
  refine x_iconst (v := -1) (by decide) (dk zX7_drop 3 rfl) ?_
  have b1 := h.1
  have hb1 := h.2
  refine y_iast (j := x1.toNatClampNeg) k114 l114 b1 rfl (dk zX7_drop 4 rfl) ?_
  refine x_aload_n 0 rfl rfl (dk zX7_drop 5 rfl) ?_
  refine gf7_1 (r := 113) rfl k107 r107_1 (dk zX7_drop 6 rfl) ?_
  refine x_iload_n 1 rfl rfl (dk zX7_drop 7 rfl) ?_
  refine x_iconst (v := 0) (by decide) (dk zX7_drop 8 rfl) ?_
  refine y_iast (j := x1.toNatClampNeg) k113 l113 b1 rfl (dk zX7_drop 9 rfl) ?_
  exact x_vret rfl (dk zX7_drop 10 rfl) hb1
set_option maxRecDepth 20000 in
set_option maxHeartbeats 2000000 in
theorem gX7_findingAt_0 {E : EV} {Q : Po} {μ : Mem} {x1 : Int32} {x2 : Int32} {x3 : Int32} (h : Sp E MX7_isLost [.ref 107, .int x1] μ (fun v m1 => ∃ r2 : Int32, v = some (.int r2) ∧ ((r2 = 0 → vp_in x1 4 ∧ ((((m1.1 114 x1.toNatClampNeg) = x2 → ((x3 < 0 → Q (some (.int 2)) m1) ∧ (¬ x3 < 0 → ((x3 < (m1.1 113 x1.toNatClampNeg) → Q (some (.int 0)) m1) ∧ (¬ x3 < (m1.1 113 x1.toNatClampNeg) → Q (some (.int 2)) m1))))) ∧ (¬ (m1.1 114 x1.toNatClampNeg) = x2 → Q (some (.int 3)) m1)))) ∧ (¬ r2 = 0 → Q (some (.int 1)) m1)))) : Ex E MX7_findingAt Q 0 [(0, .ref 107), (1, .int x1), (2, .int x2), (3, .int x3)] [] μ := by
  refine x_aload_n 0 rfl rfl (dk zX7_findingAt 0 rfl) ?_
  refine x_iload_n 1 rfl rfl (dk zX7_findingAt 1 rfl) ?_
  refine x_callV (as := [.int x1]) (o := 107) (ci := 7) (st := []) rfl okRX7_33 npX7_isLost ⟨Nat.le_of_ble_eq_true rfl, Nat.le_of_ble_eq_true rfl⟩ k107 (by decide) rfl (Nat.le_of_ble_eq_true rfl) (dk zX7_findingAt 2 rfl) ?_
  refine h.mono ?_
  rintro _ m1 ⟨r2, rfl, hm1⟩
  show Ex E MX7_findingAt Q 5 [(0, .ref 107), (1, .int x1), (2, .int x2), (3, .int x3)] [.int r2] m1
  refine x_if_eq (tgt := 10) (by decide) (dk zX7_findingAt 3 rfl) (fun c3 => ?_) (fun c3 => ?_)
  · have hc3t := hm1.1 c3
    refine x_aload_n 0 rfl rfl (dk zX7_findingAt 6 rfl) ?_
    refine gf7_2 (r := 114) rfl k107 r107_2 (dk zX7_findingAt 7 rfl) ?_
    refine x_iload_n 1 rfl rfl (dk zX7_findingAt 8 rfl) ?_
    have b4 := hc3t.1
    have hb4 := hc3t.2
    refine y_iald (j := x1.toNatClampNeg) k114 l114 b4 rfl (dk zX7_findingAt 9 rfl) ?_
    refine x_iload_n 2 rfl rfl (dk zX7_findingAt 10 rfl) ?_
    refine x_icmp_eq (tgt := 22) (by decide) (dk zX7_findingAt 11 rfl) (fun c5 => ?_) (fun c5 => ?_)
    · have hc5t := hb4.1 c5
      refine x_iload_n 3 rfl rfl (dk zX7_findingAt 14 rfl) ?_
      refine x_if_lt (tgt := 36) (by decide) (dk zX7_findingAt 15 rfl) (fun c6 => ?_) (fun c6 => ?_)
      · have hc6t := hc5t.1 c6
        refine x_iconst (v := 2) (by decide) (dk zX7_findingAt 22 rfl) ?_
        refine x_goto (tgt := 41) (by decide) (dk zX7_findingAt 23 rfl) ?_
        exact x_iret (ty := .int) rfl rfl (dk zX7_findingAt 25 rfl) hc6t
      · have hc6f := hc5t.2 c6
        refine x_iload_n 3 rfl rfl (dk zX7_findingAt 16 rfl) ?_
        refine x_aload_n 0 rfl rfl (dk zX7_findingAt 17 rfl) ?_
        refine gf7_1 (r := 113) rfl k107 r107_1 (dk zX7_findingAt 18 rfl) ?_
        refine x_iload_n 1 rfl rfl (dk zX7_findingAt 19 rfl) ?_
        refine y_iald (j := x1.toNatClampNeg) k113 l113 b4 rfl (dk zX7_findingAt 20 rfl) ?_
        refine x_icmp_lt (tgt := 40) (by decide) (dk zX7_findingAt 21 rfl) (fun c7 => ?_) (fun c7 => ?_)
        · have hc7t := hc6f.1 c7
          refine x_iconst (v := 0) (by decide) (dk zX7_findingAt 24 rfl) ?_
          exact x_iret (ty := .int) rfl rfl (dk zX7_findingAt 25 rfl) hc7t
        · have hc7f := hc6f.2 c7
          refine x_iconst (v := 2) (by decide) (dk zX7_findingAt 22 rfl) ?_
          refine x_goto (tgt := 41) (by decide) (dk zX7_findingAt 23 rfl) ?_
          exact x_iret (ty := .int) rfl rfl (dk zX7_findingAt 25 rfl) hc7f
    · have hc5f := hb4.2 c5
      refine x_iconst (v := 3) (by decide) (dk zX7_findingAt 12 rfl) ?_
      exact x_iret (ty := .int) rfl rfl (dk zX7_findingAt 13 rfl) hc5f
  · have hc3f := hm1.2 c3
    refine x_iconst (v := 1) (by decide) (dk zX7_findingAt 4 rfl) ?_
    exact x_iret (ty := .int) rfl rfl (dk zX7_findingAt 5 rfl) hc3f
set_option maxRecDepth 20000 in
set_option maxHeartbeats 2000000 in
theorem gX7_hasRun_0 {E : EV} {Q : Po} {μ : Mem} {x1 : Int32} {x2 : Int32} {x3 : Int32} (h : ((x2 < 0 → Q (some (.int 0)) μ) ∧ (¬ x2 < 0 → ((x3 < 0 → Q (some (.int 0)) μ) ∧ (¬ x3 < 0 → vp_in x1 4 ∧ ((((μ.1 113 x1.toNatClampNeg) < x2 → Q (some (.int 0)) μ) ∧ (¬ (μ.1 113 x1.toNatClampNeg) < x2 → ((((μ.1 113 x1.toNatClampNeg) - x2) < x3 → Q (some (.int 0)) μ) ∧ (¬ ((μ.1 113 x1.toNatClampNeg) - x2) < x3 → Q (some (.int 1)) μ)))))))))) : Ex E MX7_hasRun Q 0 [(0, .ref 107), (1, .int x1), (2, .int x2), (3, .int x3)] [] μ := by
  refine x_iload_n 2 rfl rfl (dk zX7_hasRun 0 rfl) ?_
  refine x_if_lt (tgt := 34) (by decide) (dk zX7_hasRun 1 rfl) (fun c1 => ?_) (fun c1 => ?_)
  · have hc1t := h.1 c1
    refine x_iconst (v := 0) (by decide) (dk zX7_hasRun 20 rfl) ?_
    exact x_iret rfl rfl (dk zX7_hasRun 21 rfl) hc1t
  · have hc1f := h.2 c1
    refine x_iload_n 3 rfl rfl (dk zX7_hasRun 2 rfl) ?_
    refine x_if_lt (tgt := 34) (by decide) (dk zX7_hasRun 3 rfl) (fun c2 => ?_) (fun c2 => ?_)
    · have hc2t := hc1f.1 c2
      refine x_iconst (v := 0) (by decide) (dk zX7_hasRun 20 rfl) ?_
      exact x_iret rfl rfl (dk zX7_hasRun 21 rfl) hc2t
    · have hc2f := hc1f.2 c2
      refine x_iload_n 2 rfl rfl (dk zX7_hasRun 4 rfl) ?_
      refine x_aload_n 0 rfl rfl (dk zX7_hasRun 5 rfl) ?_
      refine gf7_1 (r := 113) rfl k107 r107_1 (dk zX7_hasRun 6 rfl) ?_
      refine x_iload_n 1 rfl rfl (dk zX7_hasRun 7 rfl) ?_
      have b3 := hc2f.1
      have hb3 := hc2f.2
      refine y_iald (j := x1.toNatClampNeg) k113 l113 b3 rfl (dk zX7_hasRun 8 rfl) ?_
      refine x_icmp_gt (tgt := 34) (by decide) (dk zX7_hasRun 9 rfl) (fun c4 => ?_) (fun c4 => ?_)
      · have hc4t := hb3.1 c4
        refine x_iconst (v := 0) (by decide) (dk zX7_hasRun 20 rfl) ?_
        exact x_iret rfl rfl (dk zX7_hasRun 21 rfl) hc4t
      · have hc4f := hb3.2 c4
        refine x_iload_n 3 rfl rfl (dk zX7_hasRun 10 rfl) ?_
        refine x_aload_n 0 rfl rfl (dk zX7_hasRun 11 rfl) ?_
        refine gf7_1 (r := 113) rfl k107 r107_1 (dk zX7_hasRun 12 rfl) ?_
        refine x_iload_n 1 rfl rfl (dk zX7_hasRun 13 rfl) ?_
        refine y_iald (j := x1.toNatClampNeg) k113 l113 b3 rfl (dk zX7_hasRun 14 rfl) ?_
        refine x_iload_n 2 rfl rfl (dk zX7_hasRun 15 rfl) ?_
        refine x_isub (dk zX7_hasRun 16 rfl) ?_
        refine x_icmp_gt (tgt := 34) (by decide) (dk zX7_hasRun 17 rfl) (fun c5 => ?_) (fun c5 => ?_)
        · have hc5t := hc4f.1 c5
          refine x_iconst (v := 0) (by decide) (dk zX7_hasRun 20 rfl) ?_
          exact x_iret rfl rfl (dk zX7_hasRun 21 rfl) hc5t
        · have hc5f := hc4f.2 c5
          refine x_iconst (v := 1) (by decide) (dk zX7_hasRun 18 rfl) ?_
          refine x_goto (tgt := 35) (by decide) (dk zX7_hasRun 19 rfl) ?_
          exact x_iret rfl rfl (dk zX7_hasRun 21 rfl) hc5f
set_option maxRecDepth 20000 in
set_option maxHeartbeats 2000000 in
theorem gX7_findingOfCopy_0 {E : EV} {Q : Po} {μ : Mem} {x1 : Int32} {x2 : Int32} {x3 : Int32} {x4 : Int32} {x5 : Int32} (h : Sp E MX7_isLost [.ref 107, .int x1] μ (fun v m1 => ∃ r2 : Int32, v = some (.int r2) ∧ ((¬ r2 = 0 → Q (some (.int 1)) m1) ∧ (r2 = 0 → Sp E MX7_isLost [.ref 107, .int x3] m1 (fun v m4 => ∃ r5 : Int32, v = some (.int r5) ∧ ((r5 = 0 → vp_in x1 4 ∧ (vp_in x3 4 ∧ ((((m4.1 114 x1.toNatClampNeg) = (m4.1 114 x3.toNatClampNeg) → Sp E MX7_hasRun [.ref 107, .int x1, .int x2, .int x5] m4 (fun v m10 => ∃ r11 : Int32, v = some (.int r11) ∧ ((r11 = 0 → Q (some (.int 2)) m10) ∧ (¬ r11 = 0 → Sp E MX7_hasRun [.ref 107, .int x3, .int x4, .int x5] m10 (fun v m13 => ∃ r14 : Int32, v = some (.int r14) ∧ ((r14 = 0 → Q (some (.int 2)) m13) ∧ (¬ r14 = 0 → Q (some (.int 0)) m13))))))) ∧ (¬ (m4.1 114 x1.toNatClampNeg) = (m4.1 114 x3.toNatClampNeg) → Q (some (.int 4)) m4))))) ∧ (¬ r5 = 0 → Q (some (.int 1)) m4))))))) : Ex E MX7_findingOfCopy Q 0 [(0, .ref 107), (1, .int x1), (2, .int x2), (3, .int x3), (4, .int x4), (5, .int x5)] [] μ := by
  refine x_aload_n 0 rfl rfl (dk zX7_findingOfCopy 0 rfl) ?_
  refine x_iload_n 1 rfl rfl (dk zX7_findingOfCopy 1 rfl) ?_
  refine x_callV (as := [.int x1]) (o := 107) (ci := 7) (st := []) rfl okRX7_33 npX7_isLost ⟨Nat.le_of_ble_eq_true rfl, Nat.le_of_ble_eq_true rfl⟩ k107 (by decide) rfl (Nat.le_of_ble_eq_true rfl) (dk zX7_findingOfCopy 2 rfl) ?_
  refine h.mono ?_
  rintro _ m1 ⟨r2, rfl, hm1⟩
  show Ex E MX7_findingOfCopy Q 5 [(0, .ref 107), (1, .int x1), (2, .int x2), (3, .int x3), (4, .int x4), (5, .int x5)] [.int r2] m1
  refine x_if_ne (tgt := 16) (by decide) (dk zX7_findingOfCopy 3 rfl) (fun c3 => ?_) (fun c3 => ?_)
  · have hc3t := hm1.1 c3
    refine x_iconst (v := 1) (by decide) (dk zX7_findingOfCopy 8 rfl) ?_
    exact x_iret (ty := .int) rfl rfl (dk zX7_findingOfCopy 9 rfl) hc3t
  · have hc3f := hm1.2 c3
    refine x_aload_n 0 rfl rfl (dk zX7_findingOfCopy 4 rfl) ?_
    refine x_iload_n 3 rfl rfl (dk zX7_findingOfCopy 5 rfl) ?_
    refine x_callV (as := [.int x3]) (o := 107) (ci := 7) (st := []) rfl okRX7_33 npX7_isLost ⟨Nat.le_of_ble_eq_true rfl, Nat.le_of_ble_eq_true rfl⟩ k107 (by decide) rfl (Nat.le_of_ble_eq_true rfl) (dk zX7_findingOfCopy 6 rfl) ?_
    refine hc3f.mono ?_
    rintro _ m4 ⟨r5, rfl, hm4⟩
    show Ex E MX7_findingOfCopy Q 13 [(0, .ref 107), (1, .int x1), (2, .int x2), (3, .int x3), (4, .int x4), (5, .int x5)] [.int r5] m4
    refine x_if_eq (tgt := 18) (by decide) (dk zX7_findingOfCopy 7 rfl) (fun c6 => ?_) (fun c6 => ?_)
    · have hc6t := hm4.1 c6
      refine x_aload_n 0 rfl rfl (dk zX7_findingOfCopy 10 rfl) ?_
      refine gf7_2 (r := 114) rfl k107 r107_2 (dk zX7_findingOfCopy 11 rfl) ?_
      refine x_iload_n 1 rfl rfl (dk zX7_findingOfCopy 12 rfl) ?_
      have b7 := hc6t.1
      have hb7 := hc6t.2
      refine y_iald (j := x1.toNatClampNeg) k114 l114 b7 rfl (dk zX7_findingOfCopy 13 rfl) ?_
      refine x_aload_n 0 rfl rfl (dk zX7_findingOfCopy 14 rfl) ?_
      refine gf7_2 (r := 114) rfl k107 r107_2 (dk zX7_findingOfCopy 15 rfl) ?_
      refine x_iload_n 3 rfl rfl (dk zX7_findingOfCopy 16 rfl) ?_
      have b8 := hb7.1
      have hb8 := hb7.2
      refine y_iald (j := x3.toNatClampNeg) k114 l114 b8 rfl (dk zX7_findingOfCopy 17 rfl) ?_
      refine x_icmp_eq (tgt := 35) (by decide) (dk zX7_findingOfCopy 18 rfl) (fun c9 => ?_) (fun c9 => ?_)
      · have hc9t := hb8.1 c9
        refine x_aload_n 0 rfl rfl (dk zX7_findingOfCopy 21 rfl) ?_
        refine x_iload_n 1 rfl rfl (dk zX7_findingOfCopy 22 rfl) ?_
        refine x_iload_n 2 rfl rfl (dk zX7_findingOfCopy 23 rfl) ?_
        refine x_iload 5 rfl (dk zX7_findingOfCopy 24 rfl) ?_
        refine x_callV (as := [.int x1, .int x2, .int x5]) (o := 107) (ci := 7) (st := []) rfl okRX7_37 npX7_hasRun ⟨Nat.le_of_ble_eq_true rfl, Nat.le_of_ble_eq_true rfl⟩ k107 (by decide) rfl (Nat.le_of_ble_eq_true rfl) (dk zX7_findingOfCopy 25 rfl) ?_
        refine hc9t.mono ?_
        rintro _ m10 ⟨r11, rfl, hm10⟩
        show Ex E MX7_findingOfCopy Q 43 [(0, .ref 107), (1, .int x1), (2, .int x2), (3, .int x3), (4, .int x4), (5, .int x5)] [.int r11] m10
        refine x_if_eq (tgt := 62) (by decide) (dk zX7_findingOfCopy 26 rfl) (fun c12 => ?_) (fun c12 => ?_)
        · have hc12t := hm10.1 c12
          refine x_iconst (v := 2) (by decide) (dk zX7_findingOfCopy 35 rfl) ?_
          exact x_iret (ty := .int) rfl rfl (dk zX7_findingOfCopy 36 rfl) hc12t
        · have hc12f := hm10.2 c12
          refine x_aload_n 0 rfl rfl (dk zX7_findingOfCopy 27 rfl) ?_
          refine x_iload_n 3 rfl rfl (dk zX7_findingOfCopy 28 rfl) ?_
          refine x_iload 4 rfl (dk zX7_findingOfCopy 29 rfl) ?_
          refine x_iload 5 rfl (dk zX7_findingOfCopy 30 rfl) ?_
          refine x_callV (as := [.int x3, .int x4, .int x5]) (o := 107) (ci := 7) (st := []) rfl okRX7_37 npX7_hasRun ⟨Nat.le_of_ble_eq_true rfl, Nat.le_of_ble_eq_true rfl⟩ k107 (by decide) rfl (Nat.le_of_ble_eq_true rfl) (dk zX7_findingOfCopy 31 rfl) ?_
          refine hc12f.mono ?_
          rintro _ m13 ⟨r14, rfl, hm13⟩
          show Ex E MX7_findingOfCopy Q 55 [(0, .ref 107), (1, .int x1), (2, .int x2), (3, .int x3), (4, .int x4), (5, .int x5)] [.int r14] m13
          refine x_if_eq (tgt := 62) (by decide) (dk zX7_findingOfCopy 32 rfl) (fun c15 => ?_) (fun c15 => ?_)
          · have hc15t := hm13.1 c15
            refine x_iconst (v := 2) (by decide) (dk zX7_findingOfCopy 35 rfl) ?_
            exact x_iret (ty := .int) rfl rfl (dk zX7_findingOfCopy 36 rfl) hc15t
          · have hc15f := hm13.2 c15
            refine x_iconst (v := 0) (by decide) (dk zX7_findingOfCopy 33 rfl) ?_
            refine x_goto (tgt := 63) (by decide) (dk zX7_findingOfCopy 34 rfl) ?_
            exact x_iret (ty := .int) rfl rfl (dk zX7_findingOfCopy 36 rfl) hc15f
      · have hc9f := hb8.2 c9
        refine x_iconst (v := 4) (by decide) (dk zX7_findingOfCopy 19 rfl) ?_
        exact x_iret (ty := .int) rfl rfl (dk zX7_findingOfCopy 20 rfl) hc9f
    · have hc6f := hm4.2 c6
      refine x_iconst (v := 1) (by decide) (dk zX7_findingOfCopy 8 rfl) ?_
      exact x_iret (ty := .int) rfl rfl (dk zX7_findingOfCopy 9 rfl) hc6f
set_option maxRecDepth 20000 in
set_option maxHeartbeats 2000000 in
theorem gX7_item_0 {E : EV} {Q : Po} {μ : Mem} {x1 : Int32} {x2 : Int32} (h : ((x2 < 0 → Q (some (.int 0)) μ) ∧ (¬ x2 < 0 → vp_in x1 4 ∧ ((((μ.1 113 x1.toNatClampNeg) ≤ x2 → Q (some (.int 0)) μ) ∧ (¬ (μ.1 113 x1.toNatClampNeg) ≤ x2 → vp_in x2 60 ∧ (Q (some (.int (μ.1 (109 + x1.toNatClampNeg) x2.toNatClampNeg))) μ))))))) : Ex E MX7_item Q 0 [(0, .ref 107), (1, .int x1), (2, .int x2)] [] μ := by
  refine x_iload_n 2 rfl rfl (dk zX7_item 0 rfl) ?_
  refine x_if_lt (tgt := 25) (by decide) (dk zX7_item 1 rfl) (fun c1 => ?_) (fun c1 => ?_)
  · have hc1t := h.1 c1
    refine x_iconst (v := 0) (by decide) (dk zX7_item 15 rfl) ?_
    exact x_iret (ty := .int) rfl rfl (dk zX7_item 16 rfl) hc1t
  · have hc1f := h.2 c1
    refine x_iload_n 2 rfl rfl (dk zX7_item 2 rfl) ?_
    refine x_aload_n 0 rfl rfl (dk zX7_item 3 rfl) ?_
    refine gf7_1 (r := 113) rfl k107 r107_1 (dk zX7_item 4 rfl) ?_
    refine x_iload_n 1 rfl rfl (dk zX7_item 5 rfl) ?_
    have b2 := hc1f.1
    have hb2 := hc1f.2
    refine y_iald (j := x1.toNatClampNeg) k113 l113 b2 rfl (dk zX7_item 6 rfl) ?_
    refine x_icmp_ge (tgt := 25) (by decide) (dk zX7_item 7 rfl) (fun c3 => ?_) (fun c3 => ?_)
    · have hc3t := hb2.1 c3
      refine x_iconst (v := 0) (by decide) (dk zX7_item 15 rfl) ?_
      exact x_iret (ty := .int) rfl rfl (dk zX7_item 16 rfl) hc3t
    · have hc3f := hb2.2 c3
      refine x_aload_n 0 rfl rfl (dk zX7_item 8 rfl) ?_
      refine gf7_0 (r := 108) rfl k107 r107_0 (dk zX7_item 9 rfl) ?_
      refine x_iload_n 1 rfl rfl (dk zX7_item 10 rfl) ?_
      refine y_aaldI (b := 109 + x1.toNatClampNeg) k108 l108 b2 (by omega) (dk zX7_item 11 rfl) ?_
      refine x_iload_n 2 rfl rfl (dk zX7_item 12 rfl) ?_
      have b4 := hc3f.1
      have hb4 := hc3f.2
      refine y_iald (j := x2.toNatClampNeg) (sShk b2) (sShl b2) b4 rfl (dk zX7_item 13 rfl) ?_
      refine x_goto (tgt := 26) (by decide) (dk zX7_item 14 rfl) ?_
      exact x_iret (ty := .int) rfl rfl (dk zX7_item 16 rfl) hb4
set_option maxRecDepth 20000 in
set_option maxHeartbeats 2000000 in
theorem gX7_put_0 {E : EV} {Q : Po} {μ : Mem} {x1 : Int32} {x2 : Int32} {x3 : Int32} (h : ((x2 < 0 → Q none μ) ∧ (¬ x2 < 0 → vp_in x1 4 ∧ (((x2 < (μ.1 113 x1.toNatClampNeg) → ((¬ (μ.1 114 x1.toNatClampNeg) = 0 → ((¬ (μ.1 114 x1.toNatClampNeg) = 1 → vp_in x2 60 ∧ (Q none (mI μ (109 + x1.toNatClampNeg) x2.toNatClampNeg x3))) ∧ ((μ.1 114 x1.toNatClampNeg) = 1 → ∀ v7 : Int32, v7 = (Int32.toInt16 x3).toInt32 → vp_in x2 60 ∧ (Q none (mI μ (109 + x1.toNatClampNeg) x2.toNatClampNeg v7))))) ∧ ((μ.1 114 x1.toNatClampNeg) = 0 → ∀ v9 : Int32, v9 = (Int32.toInt8 x3).toInt32 → vp_in x2 60 ∧ (Q none (mI μ (109 + x1.toNatClampNeg) x2.toNatClampNeg v9))))) ∧ (¬ x2 < (μ.1 113 x1.toNatClampNeg) → Q none μ)))))) : Ex E MX7_put Q 0 [(0, .ref 107), (1, .int x1), (2, .int x2), (3, .int x3)] [] μ := by
  refine x_iload_n 2 rfl rfl (dk zX7_put 0 rfl) ?_
  refine x_if_lt (tgt := 14) (by decide) (dk zX7_put 1 rfl) (fun c1 => ?_) (fun c1 => ?_)
  · have hc1t := h.1 c1
    exact x_vret rfl (dk zX7_put 8 rfl) hc1t
  · have hc1f := h.2 c1
    refine x_iload_n 2 rfl rfl (dk zX7_put 2 rfl) ?_
    refine x_aload_n 0 rfl rfl (dk zX7_put 3 rfl) ?_
    refine gf7_1 (r := 113) rfl k107 r107_1 (dk zX7_put 4 rfl) ?_
    refine x_iload_n 1 rfl rfl (dk zX7_put 5 rfl) ?_
    have b2 := hc1f.1
    have hb2 := hc1f.2
    refine y_iald (j := x1.toNatClampNeg) k113 l113 b2 rfl (dk zX7_put 6 rfl) ?_
    refine x_icmp_lt (tgt := 15) (by decide) (dk zX7_put 7 rfl) (fun c3 => ?_) (fun c3 => ?_)
    · have hc3t := hb2.1 c3
      refine x_aload_n 0 rfl rfl (dk zX7_put 9 rfl) ?_
      refine gf7_2 (r := 114) rfl k107 r107_2 (dk zX7_put 10 rfl) ?_
      refine x_iload_n 1 rfl rfl (dk zX7_put 11 rfl) ?_
      refine y_iald (j := x1.toNatClampNeg) k114 l114 b2 rfl (dk zX7_put 12 rfl) ?_
      refine x_if_ne (tgt := 37) (by decide) (dk zX7_put 13 rfl) (fun c4 => ?_) (fun c4 => ?_)
      · have hc4t := hc3t.1 c4
        refine x_aload_n 0 rfl rfl (dk zX7_put 23 rfl) ?_
        refine gf7_2 (r := 114) rfl k107 r107_2 (dk zX7_put 24 rfl) ?_
        refine x_iload_n 1 rfl rfl (dk zX7_put 25 rfl) ?_
        refine y_iald (j := x1.toNatClampNeg) k114 l114 b2 rfl (dk zX7_put 26 rfl) ?_
        refine x_iconst (v := 1) (by decide) (dk zX7_put 27 rfl) ?_
        refine x_icmp_ne (tgt := 60) (by decide) (dk zX7_put 28 rfl) (fun c5 => ?_) (fun c5 => ?_)
        · have hc5t := hc4t.1 c5
          refine x_aload_n 0 rfl rfl (dk zX7_put 38 rfl) ?_
          refine gf7_0 (r := 108) rfl k107 r107_0 (dk zX7_put 39 rfl) ?_
          refine x_iload_n 1 rfl rfl (dk zX7_put 40 rfl) ?_
          refine y_aaldI (b := 109 + x1.toNatClampNeg) k108 l108 b2 (by omega) (dk zX7_put 41 rfl) ?_
          refine x_iload_n 2 rfl rfl (dk zX7_put 42 rfl) ?_
          refine x_iload_n 3 rfl rfl (dk zX7_put 43 rfl) ?_
          have b6 := hc5t.1
          have hb6 := hc5t.2
          refine y_iast (j := x2.toNatClampNeg) (sShk b2) (sShl b2) b6 rfl (dk zX7_put 44 rfl) ?_
          exact x_vret rfl (dk zX7_put 45 rfl) hb6
        · have hc5f := hc4t.2 c5
          refine x_aload_n 0 rfl rfl (dk zX7_put 29 rfl) ?_
          refine gf7_0 (r := 108) rfl k107 r107_0 (dk zX7_put 30 rfl) ?_
          refine x_iload_n 1 rfl rfl (dk zX7_put 31 rfl) ?_
          refine y_aaldI (b := 109 + x1.toNatClampNeg) k108 l108 b2 (by omega) (dk zX7_put 32 rfl) ?_
          refine x_iload_n 2 rfl rfl (dk zX7_put 33 rfl) ?_
          refine x_iload_n 3 rfl rfl (dk zX7_put 34 rfl) ?_
          refine x_i2s (dk zX7_put 35 rfl) ?_
          refine x_topi (fun v7 ev7 => ?_)
          have hv7 := hc5f v7 ev7
          have b8 := hv7.1
          have hb8 := hv7.2
          refine y_iast (j := x2.toNatClampNeg) (sShk b2) (sShl b2) b8 rfl (dk zX7_put 36 rfl) ?_
          refine x_goto (tgt := 69) (by decide) (dk zX7_put 37 rfl) ?_
          exact x_vret rfl (dk zX7_put 45 rfl) hb8
      · have hc4f := hc3t.2 c4
        refine x_aload_n 0 rfl rfl (dk zX7_put 14 rfl) ?_
        refine gf7_0 (r := 108) rfl k107 r107_0 (dk zX7_put 15 rfl) ?_
        refine x_iload_n 1 rfl rfl (dk zX7_put 16 rfl) ?_
        refine y_aaldI (b := 109 + x1.toNatClampNeg) k108 l108 b2 (by omega) (dk zX7_put 17 rfl) ?_
        refine x_iload_n 2 rfl rfl (dk zX7_put 18 rfl) ?_
        refine x_iload_n 3 rfl rfl (dk zX7_put 19 rfl) ?_
        refine x_i2b (dk zX7_put 20 rfl) ?_
        refine x_topi (fun v9 ev9 => ?_)
        have hv9 := hc4f v9 ev9
        have b10 := hv9.1
        have hb10 := hv9.2
        refine y_iast (j := x2.toNatClampNeg) (sShk b2) (sShl b2) b10 rfl (dk zX7_put 21 rfl) ?_
        refine x_goto (tgt := 69) (by decide) (dk zX7_put 22 rfl) ?_
        exact x_vret rfl (dk zX7_put 45 rfl) hb10
    · have hc3f := hb2.2 c3
      exact x_vret rfl (dk zX7_put 8 rfl) hc3f
set_option maxRecDepth 20000 in
set_option maxHeartbeats 2000000 in
theorem gX7_move_0 {E : EV} {Q : Po} {μ : Mem} {x1 : Int32} {x2 : Int32} {x3 : Int32} {x4 : Int32} {x5 : Int32} (h : Sp E MX7_hasRun [.ref 107, .int x1, .int x2, .int x5] μ (fun v m1 => ∃ r2 : Int32, v = some (.int r2) ∧ ((r2 = 0 → Q none m1) ∧ (¬ r2 = 0 → Sp E MX7_hasRun [.ref 107, .int x3, .int x4, .int x5] m1 (fun v m4 => ∃ r5 : Int32, v = some (.int r5) ∧ ((r5 = 0 → Q none m4) ∧ (¬ r5 = 0 → vp_in x1 4 ∧ (vp_in x3 4 ∧ ((¬ x2 < 0 ∧ ¬ x4 < 0 ∧ ¬ x5 < 0 ∧ x2.toNatClampNeg + x5.toNatClampNeg ≤ 60 ∧ x4.toNatClampNeg + x5.toNatClampNeg ≤ 60) ∧ (Q none (mCI m4 (109 + x1.toNatClampNeg) x2.toNatClampNeg (109 + x3.toNatClampNeg) x4.toNatClampNeg x5.toNatClampNeg))))))))))) : Ex E MX7_move Q 0 [(0, .ref 107), (1, .int x1), (2, .int x2), (3, .int x3), (4, .int x4), (5, .int x5)] [] μ := by
  refine x_aload_n 0 rfl rfl (dk zX7_move 0 rfl) ?_
  refine x_iload_n 1 rfl rfl (dk zX7_move 1 rfl) ?_
  refine x_iload_n 2 rfl rfl (dk zX7_move 2 rfl) ?_
  refine x_iload 5 rfl (dk zX7_move 3 rfl) ?_
  refine x_callV (as := [.int x1, .int x2, .int x5]) (o := 107) (ci := 7) (st := []) rfl okRX7_37 npX7_hasRun ⟨Nat.le_of_ble_eq_true rfl, Nat.le_of_ble_eq_true rfl⟩ k107 (by decide) rfl (Nat.le_of_ble_eq_true rfl) (dk zX7_move 4 rfl) ?_
  refine h.mono ?_
  rintro _ m1 ⟨r2, rfl, hm1⟩
  show Ex E MX7_move Q 8 [(0, .ref 107), (1, .int x1), (2, .int x2), (3, .int x3), (4, .int x4), (5, .int x5)] [.int r2] m1
  refine x_if_eq (tgt := 43) (by decide) (dk zX7_move 5 rfl) (fun c3 => ?_) (fun c3 => ?_)
  · have hc3t := hm1.1 c3
    exact x_vret rfl (dk zX7_move 24 rfl) hc3t
  · have hc3f := hm1.2 c3
    refine x_aload_n 0 rfl rfl (dk zX7_move 6 rfl) ?_
    refine x_iload_n 3 rfl rfl (dk zX7_move 7 rfl) ?_
    refine x_iload 4 rfl (dk zX7_move 8 rfl) ?_
    refine x_iload 5 rfl (dk zX7_move 9 rfl) ?_
    refine x_callV (as := [.int x3, .int x4, .int x5]) (o := 107) (ci := 7) (st := []) rfl okRX7_37 npX7_hasRun ⟨Nat.le_of_ble_eq_true rfl, Nat.le_of_ble_eq_true rfl⟩ k107 (by decide) rfl (Nat.le_of_ble_eq_true rfl) (dk zX7_move 10 rfl) ?_
    refine hc3f.mono ?_
    rintro _ m4 ⟨r5, rfl, hm4⟩
    show Ex E MX7_move Q 20 [(0, .ref 107), (1, .int x1), (2, .int x2), (3, .int x3), (4, .int x4), (5, .int x5)] [.int r5] m4
    refine x_if_eq (tgt := 43) (by decide) (dk zX7_move 11 rfl) (fun c6 => ?_) (fun c6 => ?_)
    · have hc6t := hm4.1 c6
      exact x_vret rfl (dk zX7_move 24 rfl) hc6t
    · have hc6f := hm4.2 c6
      refine x_aload_n 0 rfl rfl (dk zX7_move 12 rfl) ?_
      refine gf7_0 (r := 108) rfl k107 r107_0 (dk zX7_move 13 rfl) ?_
      refine x_iload_n 1 rfl rfl (dk zX7_move 14 rfl) ?_
      have b7 := hc6f.1
      have hb7 := hc6f.2
      refine y_aaldI (b := 109 + x1.toNatClampNeg) k108 l108 b7 (by omega) (dk zX7_move 15 rfl) ?_
      refine x_iload_n 2 rfl rfl (dk zX7_move 16 rfl) ?_
      refine x_aload_n 0 rfl rfl (dk zX7_move 17 rfl) ?_
      refine gf7_0 (r := 108) rfl k107 r107_0 (dk zX7_move 18 rfl) ?_
      refine x_iload_n 3 rfl rfl (dk zX7_move 19 rfl) ?_
      have b8 := hb7.1
      have hb8 := hb7.2
      refine y_aaldI (b := 109 + x3.toNatClampNeg) k108 l108 b8 (by omega) (dk zX7_move 20 rfl) ?_
      refine x_iload 4 rfl (dk zX7_move 21 rfl) ?_
      refine x_iload 5 rfl (dk zX7_move 22 rfl) ?_
      have b9 := hb8.1
      have hb9 := hb8.2
      refine x_copyI rfl wlRX7_41 wnat wsac wiac (sShk b7) (sShk b8) b9.1 b9.2.1 b9.2.2.1 (by rw [(sShl b7)]; exact b9.2.2.2.1) (by rw [(sShl b8)]; exact b9.2.2.2.2) (by decide) (by decide) (dk zX7_move 23 rfl) ?_
      exact x_vret rfl (dk zX7_move 24 rfl) hb9
set_option maxRecDepth 20000 in
set_option maxHeartbeats 2000000 in
theorem gX8_isFull_0 {E : EV} {Q : Po} {μ : Mem} {x0 : Nat} (hk0 : kd x0 = 8) (h : (((μ.1 x0 2) < (μ.1 x0 1) → Q (some (.int 0)) μ) ∧ (¬ (μ.1 x0 2) < (μ.1 x0 1) → Q (some (.int 1)) μ))) : Ex E MX8_isFull Q 0 [(0, .ref x0)] [] μ := by
  refine x_aload_n 0 rfl rfl (dk zX8_isFull 0 rfl) ?_
  refine gf8_2 rfl hk0 (dk zX8_isFull 1 rfl) ?_
  refine x_aload_n 0 rfl rfl (dk zX8_isFull 2 rfl) ?_
  refine gf8_1 rfl hk0 (dk zX8_isFull 3 rfl) ?_
  refine x_icmp_lt (tgt := 15) (by decide) (dk zX8_isFull 4 rfl) (fun c1 => ?_) (fun c1 => ?_)
  · have hc1t := h.1 c1
    refine x_iconst (v := 0) (by decide) (dk zX8_isFull 7 rfl) ?_
    exact x_iret rfl rfl (dk zX8_isFull 8 rfl) hc1t
  · have hc1f := h.2 c1
    refine x_iconst (v := 1) (by decide) (dk zX8_isFull 5 rfl) ?_
    refine x_goto (tgt := 16) (by decide) (dk zX8_isFull 6 rfl) ?_
    exact x_iret rfl rfl (dk zX8_isFull 8 rfl) hc1f
set_option maxRecDepth 20000 in
set_option maxHeartbeats 2000000 in
theorem gX8_append_0 {E : EV} {Q : Po} {μ : Mem} {x0 : Nat} {x1 : Int32} (hk0 : kd x0 = 8) (h : (((μ.1 x0 1) ≤ (μ.1 x0 2) → Q none μ) ∧ (¬ (μ.1 x0 1) ≤ (μ.1 x0 2) → vp_in (μ.1 x0 2) 50 ∧ (∀ v3 : Int32, v3 = ((mI μ (x0 + 1) ((μ.1 x0 2).toNatClampNeg) x1).1 x0 2) + 1 → Q none (mI (mI μ (x0 + 1) ((μ.1 x0 2).toNatClampNeg) x1) x0 2 v3))))) : Ex E MX8_append Q 0 [(0, .ref x0), (1, .int x1)] [] μ := by
  refine x_aload_n 0 rfl rfl (dk zX8_append 0 rfl) ?_
  refine gf8_2 rfl hk0 (dk zX8_append 1 rfl) ?_
  refine x_aload_n 0 rfl rfl (dk zX8_append 2 rfl) ?_
  refine gf8_1 rfl hk0 (dk zX8_append 3 rfl) ?_
  refine x_icmp_ge (tgt := 31) (by decide) (dk zX8_append 4 rfl) (fun c1 => ?_) (fun c1 => ?_)
  · have hc1t := h.1 c1
    exact x_vret rfl (dk zX8_append 17 rfl) hc1t
  · have hc1f := h.2 c1
    refine x_aload_n 0 rfl rfl (dk zX8_append 5 rfl) ?_
    refine gf8_0 (r := x0 + 1) rfl hk0 (sT0 _ hk0) (dk zX8_append 6 rfl) ?_
    refine x_aload_n 0 rfl rfl (dk zX8_append 7 rfl) ?_
    refine gf8_2 rfl hk0 (dk zX8_append 8 rfl) ?_
    refine x_iload_n 1 rfl rfl (dk zX8_append 9 rfl) ?_
    have b2 := hc1f.1
    have hb2 := hc1f.2
    refine y_iast (j := (μ.1 x0 2).toNatClampNeg) (sT0k _ hk0) (sT0l _ hk0) b2 rfl (dk zX8_append 10 rfl) ?_
    refine x_aload_n 0 rfl rfl (dk zX8_append 11 rfl) ?_
    refine x_dupr (dk zX8_append 12 rfl) ?_
    refine gf8_2 rfl hk0 (dk zX8_append 13 rfl) ?_
    refine x_iconst (v := 1) (by decide) (dk zX8_append 14 rfl) ?_
    refine x_iadd (dk zX8_append 15 rfl) ?_
    refine x_topi (fun v3 ev3 => ?_)
    have hv3 := hb2 v3 ev3
    refine pf8_2 rfl hk0 (dk zX8_append 16 rfl) ?_
    exact x_vret rfl (dk zX8_append 17 rfl) hv3
set_option maxRecDepth 20000 in
set_option maxHeartbeats 2000000 in
theorem gX8_empty_0 {E : EV} {Q : Po} {μ : Mem} {x0 : Nat} (hk0 : kd x0 = 8) (h : Q none (mI μ x0 2 0)) : Ex E MX8_empty Q 0 [(0, .ref x0)] [] μ := by
  refine x_aload_n 0 rfl rfl (dk zX8_empty 0 rfl) ?_
  refine x_iconst (v := 0) (by decide) (dk zX8_empty 1 rfl) ?_
  refine pf8_2 rfl hk0 (dk zX8_empty 2 rfl) ?_
  exact x_vret rfl (dk zX8_empty 3 rfl) h
