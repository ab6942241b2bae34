set_option maxRecDepth 20000 in
set_option maxHeartbeats 2000000 in
theorem gX11_in_0 {E : EV} {Q : Po} {μ : Mem} {x0 : Int64} {x2 : Int64} {x4 : Int64} (h : (((lg_cmp x0 x2) < 0 → Q (some (.int 0)) μ) ∧ (¬ (lg_cmp x0 x2) < 0 → ((0 < (lg_cmp x0 x4) → Q (some (.int 0)) μ) ∧ (¬ 0 < (lg_cmp x0 x4) → Q (some (.int 1)) μ))))) : Ex E MX11_in Q 0 [(0, .long x0), (2, .long x2), (4, .long x4)] [] μ := by
  refine x_lload_n 0 rfl rfl (dk zX11_in 0 rfl) ?_
  refine x_lload_n 1 rfl rfl (dk zX11_in 1 rfl) ?_
  refine x_lcmp (dk zX11_in 2 rfl) ?_
  refine x_if_lt (tgt := 17) (by decide) (dk zX11_in 3 rfl) (fun c1 => ?_) (fun c1 => ?_)
  · have hc1t := h.1 c1
    refine x_iconst (v := 0) (by decide) (dk zX11_in 10 rfl) ?_
    exact x_iret rfl rfl (dk zX11_in 11 rfl) hc1t
  · have hc1f := h.2 c1
    refine x_lload_n 0 rfl rfl (dk zX11_in 4 rfl) ?_
    refine x_lload 2 rfl (dk zX11_in 5 rfl) ?_
    refine x_lcmp (dk zX11_in 6 rfl) ?_
    refine x_if_gt (tgt := 17) (by decide) (dk zX11_in 7 rfl) (fun c2 => ?_) (fun c2 => ?_)
    · have hc2t := hc1f.1 c2
      refine x_iconst (v := 0) (by decide) (dk zX11_in 10 rfl) ?_
      exact x_iret rfl rfl (dk zX11_in 11 rfl) hc2t
    · have hc2f := hc1f.2 c2
      refine x_iconst (v := 1) (by decide) (dk zX11_in 8 rfl) ?_
      refine x_goto (tgt := 18) (by decide) (dk zX11_in 9 rfl) ?_
      exact x_iret rfl rfl (dk zX11_in 11 rfl) hc2f
set_option maxRecDepth 20000 in
set_option maxHeartbeats 2000000 in
theorem gX11_no_0 {E : EV} {Q : Po} {μ : Mem} {x0 : Int32} (h : Q (some (.long (((-9223372036854775808)) - (Int32.toInt64 x0)))) μ) : Ex E MX11_no Q 0 [(0, .int x0)] [] μ := by
  refine x_ldc2 (v := -9223372036854775808) rfl wkRX11_84 (dk zX11_no 0 rfl) ?_
  refine x_iload_n 0 rfl rfl (dk zX11_no 1 rfl) ?_
  refine x_i2l (dk zX11_no 2 rfl) ?_
  refine x_lsub (dk zX11_no 3 rfl) ?_
  exact x_lret rfl (dk zX11_no 4 rfl) h
set_option maxRecDepth 20000 in
set_option maxHeartbeats 2000000 in
theorem gX11_isTwo_0 {E : EV} {Q : Po} {μ : Mem} {x0 : Int32} (h : Sp E MX11_in [.long (Int32.toInt64 x0), .long 0, .long 1] μ (fun v m1 => ∃ r2 : Int32, v = some (.int r2) ∧ ((r2 = 0 ∨ r2 = 1) ∧ Q (some (.int r2)) m1))) : Ex E MX11_isTwo Q 0 [(0, .int x0)] [] μ := by
  refine x_iload_n 0 rfl rfl (dk zX11_isTwo 0 rfl) ?_
  refine x_i2l (dk zX11_isTwo 1 rfl) ?_
  refine x_lconst (v := 0) (by decide) (dk zX11_isTwo 2 rfl) ?_
  refine x_lconst (v := 1) (by decide) (dk zX11_isTwo 3 rfl) ?_
  refine x_callS (as := [.long (Int32.toInt64 x0), .long 0, .long 1]) (st := []) rfl okRX11_86 npX11_in ⟨Nat.le_of_ble_eq_true rfl, Nat.le_of_ble_eq_true rfl⟩ (Nat.le_of_ble_eq_true rfl) (dk zX11_isTwo 4 rfl) ?_
  refine h.mono ?_
  rintro _ m1 ⟨r2, rfl, hm1⟩
  show Ex E MX11_isTwo Q 7 [(0, .int x0)] [.int r2] m1
  exact x_iret rfl (nar_b hm1.1) (dk zX11_isTwo 5 rfl) hm1.2
set_option maxRecDepth 20000 in
set_option maxHeartbeats 2000000 in
theorem gX11_isTown_0 {E : EV} {Q : Po} {μ : Mem} {x0 : Int32} (h : Sp E MX11_in [.long (Int32.toInt64 x0), .long 0, .long ((7))] μ (fun v m1 => ∃ r2 : Int32, v = some (.int r2) ∧ ((r2 = 0 ∨ r2 = 1) ∧ Q (some (.int r2)) m1))) : Ex E MX11_isTown Q 0 [(0, .int x0)] [] μ := by
  refine x_iload_n 0 rfl rfl (dk zX11_isTown 0 rfl) ?_
  refine x_i2l (dk zX11_isTown 1 rfl) ?_
  refine x_lconst (v := 0) (by decide) (dk zX11_isTown 2 rfl) ?_
  refine x_ldc2 (v := 7) rfl wkRX11_90 (dk zX11_isTown 3 rfl) ?_
  refine x_callS (as := [.long (Int32.toInt64 x0), .long 0, .long ((7))]) (st := []) rfl okRX11_86 npX11_in ⟨Nat.le_of_ble_eq_true rfl, Nat.le_of_ble_eq_true rfl⟩ (Nat.le_of_ble_eq_true rfl) (dk zX11_isTown 4 rfl) ?_
  refine h.mono ?_
  rintro _ m1 ⟨r2, rfl, hm1⟩
  show Ex E MX11_isTown Q 9 [(0, .int x0)] [.int r2] m1
  exact x_iret rfl (nar_b hm1.1) (dk zX11_isTown 5 rfl) hm1.2
set_option maxRecDepth 20000 in
set_option maxHeartbeats 2000000 in
theorem gX11_met_0 {E : EV} {Q : Po} {μ : Mem} {x1 : Int32} (h : Q (some (.int (((-10)) - x1))) (mI μ 123 4 x1)) : Ex E MX11_met Q 0 [(0, .ref 123), (1, .int x1)] [] μ := by
  refine x_aload_n 0 rfl rfl (dk zX11_met 0 rfl) ?_
  refine x_iload_n 1 rfl rfl (dk zX11_met 1 rfl) ?_
  refine pf11_4 rfl k123 (dk zX11_met 2 rfl) ?_
  refine x_bipush (v := -10) (by decide) (dk zX11_met 3 rfl) ?_
  refine x_iload_n 1 rfl rfl (dk zX11_met 4 rfl) ?_
  refine x_isub (dk zX11_met 5 rfl) ?_
  exact x_iret (ty := .int) rfl rfl (dk zX11_met 6 rfl) h
set_option maxRecDepth 20000 in
set_option maxHeartbeats 2000000 in
theorem gX11_isSheet_0 {E : EV} {Q : Po} {μ : Mem} {x0 : Int32} (h : Sp E MX11_in [.long (Int32.toInt64 x0), .long 0, .long ((3))] μ (fun v m1 => ∃ r2 : Int32, v = some (.int r2) ∧ ((r2 = 0 ∨ r2 = 1) ∧ Q (some (.int r2)) m1))) : Ex E MX11_isSheet Q 0 [(0, .int x0)] [] μ := by
  refine x_iload_n 0 rfl rfl (dk zX11_isSheet 0 rfl) ?_
  refine x_i2l (dk zX11_isSheet 1 rfl) ?_
  refine x_lconst (v := 0) (by decide) (dk zX11_isSheet 2 rfl) ?_
  refine x_ldc2 (v := 3) rfl wkRX11_96 (dk zX11_isSheet 3 rfl) ?_
  refine x_callS (as := [.long (Int32.toInt64 x0), .long 0, .long ((3))]) (st := []) rfl okRX11_86 npX11_in ⟨Nat.le_of_ble_eq_true rfl, Nat.le_of_ble_eq_true rfl⟩ (Nat.le_of_ble_eq_true rfl) (dk zX11_isSheet 4 rfl) ?_
  refine h.mono ?_
  rintro _ m1 ⟨r2, rfl, hm1⟩
  show Ex E MX11_isSheet Q 9 [(0, .int x0)] [.int r2] m1
  exact x_iret rfl (nar_b hm1.1) (dk zX11_isSheet 5 rfl) hm1.2
set_option maxRecDepth 20000 in
set_option maxHeartbeats 2000000 in
theorem gX11_sheet_0 {E : EV} {Q : Po} {μ : Mem} {x1 : Int32} {x2 : Int32} {x3 : Int32} (h : Sp E MX11_isSheet [.int x1] μ (fun v m1 => ∃ r2 : Int32, v = some (.int r2) ∧ ((r2 = 0 → Q (some (.int ((-2)))) m1) ∧ (¬ r2 = 0 → Sp E MX11_in [.long (Int32.toInt64 x2), .long 0, .long ((2))] m1 (fun v m4 => ∃ r5 : Int32, v = some (.int r5) ∧ ((r5 = 0 → Q (some (.int ((-2)))) m4) ∧ (¬ r5 = 0 → ((x3 ≤ 60 → ((0 ≤ x3 → vp_in x1 4 ∧ (Ex E MX11_sheet Q 55 [(0, .ref 123), (1, .int x1), (2, .int x2), (3, .int x3), (4, .int 0)] [] (mI (mI m4 124 x1.toNatClampNeg x2) 125 x1.toNatClampNeg x3))) ∧ (¬ 0 ≤ x3 → Sp E MX11_met [.ref 123, .int 5] m4 (fun v m10 => ∃ r11 : Int32, v = some (.int r11) ∧ Q (some (.int r11)) m10)))) ∧ (¬ x3 ≤ 60 → Q (some (.int ((-2)))) m4))))))))) : Ex E MX11_sheet Q 0 [(0, .ref 123), (1, .int x1), (2, .int x2), (3, .int x3)] [] μ := by
  refine x_iload_n 1 rfl rfl (dk zX11_sheet 0 rfl) ?_
  refine x_callS (as := [.int x1]) (st := []) rfl okRX11_98 npX11_isSheet ⟨Nat.le_of_ble_eq_true rfl, Nat.le_of_ble_eq_true rfl⟩ (Nat.le_of_ble_eq_true rfl) (dk zX11_sheet 1 rfl) ?_
  refine h.mono ?_
  rintro _ m1 ⟨r2, rfl, hm1⟩
  show Ex E MX11_sheet Q 4 [(0, .ref 123), (1, .int x1), (2, .int x2), (3, .int x3)] [.int r2] m1
  refine x_if_eq (tgt := 25) (by decide) (dk zX11_sheet 2 rfl) (fun c3 => ?_) (fun c3 => ?_)
  · have hc3t := hm1.1 c3
    refine x_bipush (v := -2) (by decide) (dk zX11_sheet 12 rfl) ?_
    exact x_iret (ty := .int) rfl rfl (dk zX11_sheet 13 rfl) hc3t
  · have hc3f := hm1.2 c3
    refine x_iload_n 2 rfl rfl (dk zX11_sheet 3 rfl) ?_
    refine x_i2l (dk zX11_sheet 4 rfl) ?_
    refine x_lconst (v := 0) (by decide) (dk zX11_sheet 5 rfl) ?_
    refine x_ldc2 (v := 2) rfl wkRX11_102 (dk zX11_sheet 6 rfl) ?_
    refine x_callS (as := [.long (Int32.toInt64 x2), .long 0, .long ((2))]) (st := []) rfl okRX11_86 npX11_in ⟨Nat.le_of_ble_eq_true rfl, Nat.le_of_ble_eq_true rfl⟩ (Nat.le_of_ble_eq_true rfl) (dk zX11_sheet 7 rfl) ?_
    refine hc3f.mono ?_
    rintro _ m4 ⟨r5, rfl, hm4⟩
    show Ex E MX11_sheet Q 16 [(0, .ref 123), (1, .int x1), (2, .int x2), (3, .int x3)] [.int r5] m4
    refine x_if_eq (tgt := 25) (by decide) (dk zX11_sheet 8 rfl) (fun c6 => ?_) (fun c6 => ?_)
    · have hc6t := hm4.1 c6
      refine x_bipush (v := -2) (by decide) (dk zX11_sheet 12 rfl) ?_
      exact x_iret (ty := .int) rfl rfl (dk zX11_sheet 13 rfl) hc6t
    · have hc6f := hm4.2 c6
      refine x_iload_n 3 rfl rfl (dk zX11_sheet 9 rfl) ?_
      refine x_bipush (v := 60) (by decide) (dk zX11_sheet 10 rfl) ?_
      refine x_icmp_le (tgt := 28) (by decide) (dk zX11_sheet 11 rfl) (fun c7 => ?_) (fun c7 => ?_)
      · have hc7t := hc6f.1 c7
        refine x_iload_n 3 rfl rfl (dk zX11_sheet 14 rfl) ?_
        refine x_if_ge (tgt := 38) (by decide) (dk zX11_sheet 15 rfl) (fun c8 => ?_) (fun c8 => ?_)
        · have hc8t := hc7t.1 c8
          refine x_aload_n 0 rfl rfl (dk zX11_sheet 20 rfl) ?_
          refine gf11_0 (r := 124) rfl k123 r123_0 (dk zX11_sheet 21 rfl) ?_
          refine x_iload_n 1 rfl rfl (dk zX11_sheet 22 rfl) ?_
          refine x_iload_n 2 rfl rfl (dk zX11_sheet 23 rfl) ?_
          have b9 := hc8t.1
          have hb9 := hc8t.2
          refine y_iast (j := x1.toNatClampNeg) k124 l124 b9 rfl (dk zX11_sheet 24 rfl) ?_
          refine x_aload_n 0 rfl rfl (dk zX11_sheet 25 rfl) ?_
          refine gf11_1 (r := 125) rfl k123 r123_1 (dk zX11_sheet 26 rfl) ?_
          refine x_iload_n 1 rfl rfl (dk zX11_sheet 27 rfl) ?_
          refine x_iload_n 3 rfl rfl (dk zX11_sheet 28 rfl) ?_
          refine y_iast (j := x1.toNatClampNeg) k125 l125 b9 rfl (dk zX11_sheet 29 rfl) ?_
          refine x_iconst (v := 0) (by decide) (dk zX11_sheet 30 rfl) ?_
          refine x_istoreG (l' := [(0, .ref 123), (1, .int x1), (2, .int x2), (3, .int x3), (4, .int 0)]) [1, 2, 3, 4, 0] rfl (by decide) (dk zX11_sheet 31 rfl) ?_
          exact hb9
        · have hc8f := hc7t.2 c8
          refine x_aload_n 0 rfl rfl (dk zX11_sheet 16 rfl) ?_
          refine x_iconst (v := 5) (by decide) (dk zX11_sheet 17 rfl) ?_
          refine x_callV (as := [.int 5]) (o := 123) (ci := 11) (st := []) rfl okRX11_104 npX11_met ⟨Nat.le_of_ble_eq_true rfl, Nat.le_of_ble_eq_true rfl⟩ k123 (by decide) rfl (Nat.le_of_ble_eq_true rfl) (dk zX11_sheet 18 rfl) ?_
          refine hc8f.mono ?_
          rintro _ m10 ⟨r11, rfl, hm10⟩
          show Ex E MX11_sheet Q 37 [(0, .ref 123), (1, .int x1), (2, .int x2), (3, .int x3)] [.int r11] m10
          exact x_iret (ty := .int) rfl rfl (dk zX11_sheet 19 rfl) hm10
      · have hc7f := hc6f.2 c7
        refine x_bipush (v := -2) (by decide) (dk zX11_sheet 12 rfl) ?_
        exact x_iret (ty := .int) rfl rfl (dk zX11_sheet 13 rfl) hc7f
set_option maxRecDepth 20000 in
set_option maxHeartbeats 2000000 in
theorem gX11_sheet_55 {E : EV} {Q : Po} {μ : Mem} {x1 : Int32} {x2 : Int32} {x3 : Int32} {x4 : Int32} (h : ((x3 ≤ x4 → Q (some (.int x3)) μ) ∧ (¬ x3 ≤ x4 → vp_in ((60 * x1) + x4) 240 ∧ (∀ v3 : Int32, v3 = x4 + 1 → Ex E MX11_sheet Q 55 [(0, .ref 123), (1, .int x1), (2, .int x2), (3, .int x3), (4, .int v3)] [] (mI μ 126 (((60 * x1) + x4).toNatClampNeg) 0))))) : Ex E MX11_sheet Q 55 [(0, .ref 123), (1, .int x1), (2, .int x2), (3, .int x3), (4, .int x4)] [] μ := by
  refine x_iload 4 rfl (dk zX11_sheet 32 rfl) ?_
  refine x_iload_n 3 rfl rfl (dk zX11_sheet 33 rfl) ?_
  refine x_icmp_ge (tgt := 80) (by decide) (dk zX11_sheet 34 rfl) (fun c1 => ?_) (fun c1 => ?_)
  · have hc1t := h.1 c1
    refine x_iload_n 3 rfl rfl (dk zX11_sheet 46 rfl) ?_
    exact x_iret (ty := .int) rfl rfl (dk zX11_sheet 47 rfl) hc1t
  · have hc1f := h.2 c1
    refine x_aload_n 0 rfl rfl (dk zX11_sheet 35 rfl) ?_
    refine gf11_2 (r := 126) rfl k123 r123_2 (dk zX11_sheet 36 rfl) ?_
    refine x_bipush (v := 60) (by decide) (dk zX11_sheet 37 rfl) ?_
    refine x_iload_n 1 rfl rfl (dk zX11_sheet 38 rfl) ?_
    refine x_imul (dk zX11_sheet 39 rfl) ?_
    refine x_iload 4 rfl (dk zX11_sheet 40 rfl) ?_
    refine x_iadd (dk zX11_sheet 41 rfl) ?_
    refine x_iconst (v := 0) (by decide) (dk zX11_sheet 42 rfl) ?_
    have b2 := hc1f.1
    have hb2 := hc1f.2
    refine y_iast (j := ((60 * x1) + x4).toNatClampNeg) k126 l126 b2 rfl (dk zX11_sheet 43 rfl) ?_
    obtain ⟨v3, ev3⟩ : ∃ y : Int32, y = x4 + 1 := ⟨_, rfl⟩
    have hv3 := hb2 v3 ev3
    refine x_iinc (v := v3) (l' := [(0, .ref 123), (1, .int x1), (2, .int x2), (3, .int x3), (4, .int v3)]) 4 rfl (by rw [ev3]; rfl) [1, 2, 3, 4, 0] rfl (by decide) (dk zX11_sheet 44 rfl) ?_
    refine x_goto (tgt := 55) (by decide) (dk zX11_sheet 45 rfl) ?_
    exact hv3
set_option maxRecDepth 20000 in
set_option maxHeartbeats 2000000 in
theorem gX11_lose_0 {E : EV} {Q : Po} {μ : Mem} {x1 : Int32} (h : Sp E MX11_isSheet [.int x1] μ (fun v m1 => ∃ r2 : Int32, v = some (.int r2) ∧ ((¬ r2 = 0 → vp_in x1 4 ∧ (((0 ≤ (m1.1 124 x1.toNatClampNeg) → Q (some (.int ((mI m1 124 x1.toNatClampNeg ((-1))).1 125 x1.toNatClampNeg))) (mI m1 124 x1.toNatClampNeg ((-1)))) ∧ (¬ 0 ≤ (m1.1 124 x1.toNatClampNeg) → Sp E MX11_met [.ref 123, .int 1] m1 (fun v m6 => ∃ r7 : Int32, v = some (.int r7) ∧ Q (some (.int r7)) m6))))) ∧ (r2 = 0 → Q (some (.int ((-2)))) m1)))) : Ex E MX11_lose Q 0 [(0, .ref 123), (1, .int x1)] [] μ := by
  refine x_iload_n 1 rfl rfl (dk zX11_lose 0 rfl) ?_
  refine x_callS (as := [.int x1]) (st := []) rfl okRX11_98 npX11_isSheet ⟨Nat.le_of_ble_eq_true rfl, Nat.le_of_ble_eq_true rfl⟩ (Nat.le_of_ble_eq_true rfl) (dk zX11_lose 1 rfl) ?_
  refine h.mono ?_
  rintro _ m1 ⟨r2, rfl, hm1⟩
  show Ex E MX11_lose Q 4 [(0, .ref 123), (1, .int x1)] [.int r2] m1
  refine x_if_ne (tgt := 10) (by decide) (dk zX11_lose 2 rfl) (fun c3 => ?_) (fun c3 => ?_)
  · have hc3t := hm1.1 c3
    refine x_aload_n 0 rfl rfl (dk zX11_lose 5 rfl) ?_
    refine gf11_0 (r := 124) rfl k123 r123_0 (dk zX11_lose 6 rfl) ?_
    refine x_iload_n 1 rfl rfl (dk zX11_lose 7 rfl) ?_
    have b4 := hc3t.1
    have hb4 := hc3t.2
    refine y_iald (j := x1.toNatClampNeg) k124 l124 b4 rfl (dk zX11_lose 8 rfl) ?_
    refine x_if_ge (tgt := 25) (by decide) (dk zX11_lose 9 rfl) (fun c5 => ?_) (fun c5 => ?_)
    · have hc5t := hb4.1 c5
      refine x_aload_n 0 rfl rfl (dk zX11_lose 14 rfl) ?_
      refine gf11_0 (r := 124) rfl k123 r123_0 (dk zX11_lose 15 rfl) ?_
      refine x_iload_n 1 rfl rfl (dk zX11_lose 16 rfl) ?_
      refine x_iconst (v := -1) (by decide) (dk zX11_lose 17 rfl) ?_
      refine y_iast (j := x1.toNatClampNeg) k124 l124 b4 rfl (dk zX11_lose 18 rfl) ?_
      refine x_aload_n 0 rfl rfl (dk zX11_lose 19 rfl) ?_
      refine gf11_1 (r := 125) rfl k123 r123_1 (dk zX11_lose 20 rfl) ?_
      refine x_iload_n 1 rfl rfl (dk zX11_lose 21 rfl) ?_
      refine y_iald (j := x1.toNatClampNeg) k125 l125 b4 rfl (dk zX11_lose 22 rfl) ?_
      exact x_iret (ty := .int) rfl rfl (dk zX11_lose 23 rfl) hc5t
    · have hc5f := hb4.2 c5
      refine x_aload_n 0 rfl rfl (dk zX11_lose 10 rfl) ?_
      refine x_iconst (v := 1) (by decide) (dk zX11_lose 11 rfl) ?_
      refine x_callV (as := [.int 1]) (o := 123) (ci := 11) (st := []) rfl okRX11_104 npX11_met ⟨Nat.le_of_ble_eq_true rfl, Nat.le_of_ble_eq_true rfl⟩ k123 (by decide) rfl (Nat.le_of_ble_eq_true rfl) (dk zX11_lose 12 rfl) ?_
      refine hc5f.mono ?_
      rintro _ m6 ⟨r7, rfl, hm6⟩
      show Ex E MX11_lose Q 24 [(0, .ref 123), (1, .int x1)] [.int r7] m6
      exact x_iret (ty := .int) rfl rfl (dk zX11_lose 13 rfl) hm6
  · have hc3f := hm1.2 c3
    refine x_bipush (v := -2) (by decide) (dk zX11_lose 3 rfl) ?_
    exact x_iret (ty := .int) rfl rfl (dk zX11_lose 4 rfl) hc3f
set_option maxRecDepth 20000 in
set_option maxHeartbeats 2000000 in
theorem gX11_lacks_0 {E : EV} {Q : Po} {μ : Mem} {x1 : Int32} {x2 : Int32} {x3 : Int32} (h : vp_in x1 4 ∧ (((0 ≤ (μ.1 124 x1.toNatClampNeg) → (((μ.1 124 x1.toNatClampNeg) = x2 → Sp E MX11_in [.long (Int32.toInt64 x3), .long 0, .long (Int32.toInt64 ((μ.1 125 x1.toNatClampNeg) - 1))] μ (fun v m4 => ∃ r5 : Int32, v = some (.int r5) ∧ ((r5 = 0 → Sp E MX11_met [.ref 123, .int 2] m4 (fun v m7 => ∃ r8 : Int32, v = some (.int r8) ∧ Q (some (.int r8)) m7)) ∧ (¬ r5 = 0 → Q (some (.int 0)) m4)))) ∧ (¬ (μ.1 124 x1.toNatClampNeg) = x2 → Sp E MX11_met [.ref 123, .int 3] μ (fun v m9 => ∃ r10 : Int32, v = some (.int r10) ∧ Q (some (.int r10)) m9)))) ∧ (¬ 0 ≤ (μ.1 124 x1.toNatClampNeg) → Sp E MX11_met [.ref 123, .int 1] μ (fun v m11 => ∃ r12 : Int32, v = some (.int r12) ∧ Q (some (.int r12)) m11))))) : Ex E MX11_lacks Q 0 [(0, .ref 123), (1, .int x1), (2, .int x2), (3, .int x3)] [] μ := by
  refine x_aload_n 0 rfl rfl (dk zX11_lacks 0 rfl) ?_
  refine gf11_0 (r := 124) rfl k123 r123_0 (dk zX11_lacks 1 rfl) ?_
  refine x_iload_n 1 rfl rfl (dk zX11_lacks 2 rfl) ?_
  have b1 := h.1
  have hb1 := h.2
  refine y_iald (j := x1.toNatClampNeg) k124 l124 b1 rfl (dk zX11_lacks 3 rfl) ?_
  refine x_if_ge (tgt := 15) (by decide) (dk zX11_lacks 4 rfl) (fun c2 => ?_) (fun c2 => ?_)
  · have hc2t := hb1.1 c2
    refine x_aload_n 0 rfl rfl (dk zX11_lacks 9 rfl) ?_
    refine gf11_0 (r := 124) rfl k123 r123_0 (dk zX11_lacks 10 rfl) ?_
    refine x_iload_n 1 rfl rfl (dk zX11_lacks 11 rfl) ?_
    refine y_iald (j := x1.toNatClampNeg) k124 l124 b1 rfl (dk zX11_lacks 12 rfl) ?_
    refine x_iload_n 2 rfl rfl (dk zX11_lacks 13 rfl) ?_
    refine x_icmp_eq (tgt := 31) (by decide) (dk zX11_lacks 14 rfl) (fun c3 => ?_) (fun c3 => ?_)
    · have hc3t := hc2t.1 c3
      refine x_iload_n 3 rfl rfl (dk zX11_lacks 19 rfl) ?_
      refine x_i2l (dk zX11_lacks 20 rfl) ?_
      refine x_lconst (v := 0) (by decide) (dk zX11_lacks 21 rfl) ?_
      refine x_aload_n 0 rfl rfl (dk zX11_lacks 22 rfl) ?_
      refine gf11_1 (r := 125) rfl k123 r123_1 (dk zX11_lacks 23 rfl) ?_
      refine x_iload_n 1 rfl rfl (dk zX11_lacks 24 rfl) ?_
      refine y_iald (j := x1.toNatClampNeg) k125 l125 b1 rfl (dk zX11_lacks 25 rfl) ?_
      refine x_iconst (v := 1) (by decide) (dk zX11_lacks 26 rfl) ?_
      refine x_isub (dk zX11_lacks 27 rfl) ?_
      refine x_i2l (dk zX11_lacks 28 rfl) ?_
      refine x_callS (as := [.long (Int32.toInt64 x3), .long 0, .long (Int32.toInt64 ((μ.1 125 x1.toNatClampNeg) - 1))]) (st := []) rfl okRX11_86 npX11_in ⟨Nat.le_of_ble_eq_true rfl, Nat.le_of_ble_eq_true rfl⟩ (Nat.le_of_ble_eq_true rfl) (dk zX11_lacks 29 rfl) ?_
      refine hc3t.mono ?_
      rintro _ m4 ⟨r5, rfl, hm4⟩
      show Ex E MX11_lacks Q 46 [(0, .ref 123), (1, .int x1), (2, .int x2), (3, .int x3)] [.int r5] m4
      refine x_if_eq (tgt := 53) (by decide) (dk zX11_lacks 30 rfl) (fun c6 => ?_) (fun c6 => ?_)
      · have hc6t := hm4.1 c6
        refine x_aload_n 0 rfl rfl (dk zX11_lacks 33 rfl) ?_
        refine x_iconst (v := 2) (by decide) (dk zX11_lacks 34 rfl) ?_
        refine x_callV (as := [.int 2]) (o := 123) (ci := 11) (st := []) rfl okRX11_104 npX11_met ⟨Nat.le_of_ble_eq_true rfl, Nat.le_of_ble_eq_true rfl⟩ k123 (by decide) rfl (Nat.le_of_ble_eq_true rfl) (dk zX11_lacks 35 rfl) ?_
        refine hc6t.mono ?_
        rintro _ m7 ⟨r8, rfl, hm7⟩
        show Ex E MX11_lacks Q 58 [(0, .ref 123), (1, .int x1), (2, .int x2), (3, .int x3)] [.int r8] m7
        exact x_iret (ty := .int) rfl rfl (dk zX11_lacks 36 rfl) hm7
      · have hc6f := hm4.2 c6
        refine x_iconst (v := 0) (by decide) (dk zX11_lacks 31 rfl) ?_
        refine x_goto (tgt := 58) (by decide) (dk zX11_lacks 32 rfl) ?_
        exact x_iret (ty := .int) rfl rfl (dk zX11_lacks 36 rfl) hc6f
    · have hc3f := hc2t.2 c3
      refine x_aload_n 0 rfl rfl (dk zX11_lacks 15 rfl) ?_
      refine x_iconst (v := 3) (by decide) (dk zX11_lacks 16 rfl) ?_
      refine x_callV (as := [.int 3]) (o := 123) (ci := 11) (st := []) rfl okRX11_104 npX11_met ⟨Nat.le_of_ble_eq_true rfl, Nat.le_of_ble_eq_true rfl⟩ k123 (by decide) rfl (Nat.le_of_ble_eq_true rfl) (dk zX11_lacks 17 rfl) ?_
      refine hc3f.mono ?_
      rintro _ m9 ⟨r10, rfl, hm9⟩
      show Ex E MX11_lacks Q 30 [(0, .ref 123), (1, .int x1), (2, .int x2), (3, .int x3)] [.int r10] m9
      exact x_iret (ty := .int) rfl rfl (dk zX11_lacks 18 rfl) hm9
  · have hc2f := hb1.2 c2
    refine x_aload_n 0 rfl rfl (dk zX11_lacks 5 rfl) ?_
    refine x_iconst (v := 1) (by decide) (dk zX11_lacks 6 rfl) ?_
    refine x_callV (as := [.int 1]) (o := 123) (ci := 11) (st := []) rfl okRX11_104 npX11_met ⟨Nat.le_of_ble_eq_true rfl, Nat.le_of_ble_eq_true rfl⟩ k123 (by decide) rfl (Nat.le_of_ble_eq_true rfl) (dk zX11_lacks 7 rfl) ?_
    refine hc2f.mono ?_
    rintro _ m11 ⟨r12, rfl, hm11⟩
    show Ex E MX11_lacks Q 14 [(0, .ref 123), (1, .int x1), (2, .int x2), (3, .int x3)] [.int r12] m11
    exact x_iret (ty := .int) rfl rfl (dk zX11_lacks 8 rfl) hm11
set_option maxRecDepth 20000 in
set_option maxHeartbeats 2000000 in
theorem gX11_cut_0 {E : EV} {Q : Po} {μ : Mem} {x0 : Int32} {x1 : Int32} (h : ((¬ x0 = 0 → ((¬ x0 = 1 → Q (some (.int x1)) μ) ∧ (x0 = 1 → Q (some (.int ((Int32.toInt16 x1).toInt32))) μ))) ∧ (x0 = 0 → Q (some (.int ((Int32.toInt8 x1).toInt32))) μ))) : Ex E MX11_cut Q 0 [(0, .int x0), (1, .int x1)] [] μ := by
  refine x_iload_n 0 rfl rfl (dk zX11_cut 0 rfl) ?_
  refine x_if_ne (tgt := 9) (by decide) (dk zX11_cut 1 rfl) (fun c1 => ?_) (fun c1 => ?_)
  · have hc1t := h.1 c1
    refine x_iload_n 0 rfl rfl (dk zX11_cut 5 rfl) ?_
    refine x_iconst (v := 1) (by decide) (dk zX11_cut 6 rfl) ?_
    refine x_icmp_ne (tgt := 19) (by decide) (dk zX11_cut 7 rfl) (fun c2 => ?_) (fun c2 => ?_)
    · have hc2t := hc1t.1 c2
      refine x_iload_n 1 rfl rfl (dk zX11_cut 11 rfl) ?_
      exact x_iret (ty := .int) rfl rfl (dk zX11_cut 12 rfl) hc2t
    · have hc2f := hc1t.2 c2
      refine x_iload_n 1 rfl rfl (dk zX11_cut 8 rfl) ?_
      refine x_i2s (dk zX11_cut 9 rfl) ?_
      refine x_goto (tgt := 20) (by decide) (dk zX11_cut 10 rfl) ?_
      exact x_iret (ty := .int) rfl rfl (dk zX11_cut 12 rfl) hc2f
  · have hc1f := h.2 c1
    refine x_iload_n 1 rfl rfl (dk zX11_cut 2 rfl) ?_
    refine x_i2b (dk zX11_cut 3 rfl) ?_
    refine x_goto (tgt := 20) (by decide) (dk zX11_cut 4 rfl) ?_
    exact x_iret (ty := .int) rfl rfl (dk zX11_cut 12 rfl) hc1f
set_option maxRecDepth 20000 in
set_option maxHeartbeats 2000000 in
theorem gX11_lay_0 {E : EV} {Q : Po} {μ : Mem} {x1 : Int32} {x2 : Int32} {x3 : Int32} {x4 : Int32} (h : Sp E MX11_isSheet [.int x1] μ (fun v m1 => ∃ r2 : Int32, v = some (.int r2) ∧ ((r2 = 0 → Q (some (.int ((-2)))) m1) ∧ (¬ r2 = 0 → Sp E MX11_in [.long (Int32.toInt64 x2), .long 0, .long ((2))] m1 (fun v m4 => ∃ r5 : Int32, v = some (.int r5) ∧ ((¬ r5 = 0 → Sp E MX11_lacks [.ref 123, .int x1, .int x2, .int x3] m4 (fun v m7 => ∃ r8 : Int32, v = some (.int r8) ∧ ((r8 = 0 → Sp E MX11_cut [.int x2, .int x4] m7 (fun v m10 => ∃ r11 : Int32, v = some (.int r11) ∧ vp_in ((60 * x1) + x3) 240 ∧ (Q (some (.int 1)) (mI m10 126 (((60 * x1) + x3).toNatClampNeg) r11)))) ∧ (¬ r8 = 0 → Q (some (.int r8)) m7)))) ∧ (r5 = 0 → Q (some (.int ((-2)))) m4))))))) : Ex E MX11_lay Q 0 [(0, .ref 123), (1, .int x1), (2, .int x2), (3, .int x3), (4, .int x4)] [] μ := by
  refine x_iload_n 1 rfl rfl (dk zX11_lay 0 rfl) ?_
  refine x_callS (as := [.int x1]) (st := []) rfl okRX11_98 npX11_isSheet ⟨Nat.le_of_ble_eq_true rfl, Nat.le_of_ble_eq_true rfl⟩ (Nat.le_of_ble_eq_true rfl) (dk zX11_lay 1 rfl) ?_
  refine h.mono ?_
  rintro _ m1 ⟨r2, rfl, hm1⟩
  show Ex E MX11_lay Q 4 [(0, .ref 123), (1, .int x1), (2, .int x2), (3, .int x3), (4, .int x4)] [.int r2] m1
  refine x_if_eq (tgt := 19) (by decide) (dk zX11_lay 2 rfl) (fun c3 => ?_) (fun c3 => ?_)
  · have hc3t := hm1.1 c3
    refine x_bipush (v := -2) (by decide) (dk zX11_lay 9 rfl) ?_
    exact x_iret (ty := .int) rfl rfl (dk zX11_lay 10 rfl) hc3t
  · have hc3f := hm1.2 c3
    refine x_iload_n 2 rfl rfl (dk zX11_lay 3 rfl) ?_
    refine x_i2l (dk zX11_lay 4 rfl) ?_
    refine x_lconst (v := 0) (by decide) (dk zX11_lay 5 rfl) ?_
    refine x_ldc2 (v := 2) rfl wkRX11_102 (dk zX11_lay 6 rfl) ?_
    refine x_callS (as := [.long (Int32.toInt64 x2), .long 0, .long ((2))]) (st := []) rfl okRX11_86 npX11_in ⟨Nat.le_of_ble_eq_true rfl, Nat.le_of_ble_eq_true rfl⟩ (Nat.le_of_ble_eq_true rfl) (dk zX11_lay 7 rfl) ?_
    refine hc3f.mono ?_
    rintro _ m4 ⟨r5, rfl, hm4⟩
    show Ex E MX11_lay Q 16 [(0, .ref 123), (1, .int x1), (2, .int x2), (3, .int x3), (4, .int x4)] [.int r5] m4
    refine x_if_ne (tgt := 22) (by decide) (dk zX11_lay 8 rfl) (fun c6 => ?_) (fun c6 => ?_)
    · have hc6t := hm4.1 c6
      refine x_aload_n 0 rfl rfl (dk zX11_lay 11 rfl) ?_
      refine x_iload_n 1 rfl rfl (dk zX11_lay 12 rfl) ?_
      refine x_iload_n 2 rfl rfl (dk zX11_lay 13 rfl) ?_
      refine x_iload_n 3 rfl rfl (dk zX11_lay 14 rfl) ?_
      refine x_callV (as := [.int x1, .int x2, .int x3]) (o := 123) (ci := 11) (st := []) rfl okRX11_108 npX11_lacks ⟨Nat.le_of_ble_eq_true rfl, Nat.le_of_ble_eq_true rfl⟩ k123 (by decide) rfl (Nat.le_of_ble_eq_true rfl) (dk zX11_lay 15 rfl) ?_
      refine hc6t.mono ?_
      rintro _ m7 ⟨r8, rfl, hm7⟩
      show Ex E MX11_lay Q 29 [(0, .ref 123), (1, .int x1), (2, .int x2), (3, .int x3), (4, .int x4)] [.int r8] m7
      refine x_istoreG (l' := [(0, .ref 123), (1, .int x1), (2, .int x2), (3, .int x3), (4, .int x4), (5, .int r8)]) [1, 2, 3, 4, 5, 0] rfl (by decide) (dk zX11_lay 16 rfl) ?_
      refine x_iload 5 rfl (dk zX11_lay 17 rfl) ?_
      refine x_if_eq (tgt := 39) (by decide) (dk zX11_lay 18 rfl) (fun c9 => ?_) (fun c9 => ?_)
      · have hc9t := hm7.1 c9
        refine x_aload_n 0 rfl rfl (dk zX11_lay 21 rfl) ?_
        refine gf11_2 (r := 126) rfl k123 r123_2 (dk zX11_lay 22 rfl) ?_
        refine x_bipush (v := 60) (by decide) (dk zX11_lay 23 rfl) ?_
        refine x_iload_n 1 rfl rfl (dk zX11_lay 24 rfl) ?_
        refine x_imul (dk zX11_lay 25 rfl) ?_
        refine x_iload_n 3 rfl rfl (dk zX11_lay 26 rfl) ?_
        refine x_iadd (dk zX11_lay 27 rfl) ?_
        refine x_iload_n 2 rfl rfl (dk zX11_lay 28 rfl) ?_
        refine x_iload 4 rfl (dk zX11_lay 29 rfl) ?_
        refine x_callS (as := [.int x2, .int x4]) (st := [.int ((60 * x1) + x3), .ref 126]) rfl okRX11_112 npX11_cut ⟨Nat.le_of_ble_eq_true rfl, Nat.le_of_ble_eq_true rfl⟩ (Nat.le_of_ble_eq_true rfl) (dk zX11_lay 30 rfl) ?_
        refine hc9t.mono ?_
        rintro _ m10 ⟨r11, rfl, hm10⟩
        show Ex E MX11_lay Q 55 [(0, .ref 123), (1, .int x1), (2, .int x2), (3, .int x3), (4, .int x4), (5, .int r8)] [.int r11, .int ((60 * x1) + x3), .ref 126] m10
        have b12 := hm10.1
        have hb12 := hm10.2
        refine y_iast (j := ((60 * x1) + x3).toNatClampNeg) k126 l126 b12 rfl (dk zX11_lay 31 rfl) ?_
        refine x_iconst (v := 1) (by decide) (dk zX11_lay 32 rfl) ?_
        exact x_iret (ty := .int) rfl rfl (dk zX11_lay 33 rfl) hb12
      · have hc9f := hm7.2 c9
        refine x_iload 5 rfl (dk zX11_lay 19 rfl) ?_
        exact x_iret (ty := .int) rfl rfl (dk zX11_lay 20 rfl) hc9f
    · have hc6f := hm4.2 c6
      refine x_bipush (v := -2) (by decide) (dk zX11_lay 9 rfl) ?_
      exact x_iret (ty := .int) rfl rfl (dk zX11_lay 10 rfl) hc6f
set_option maxRecDepth 20000 in
set_option maxHeartbeats 2000000 in
theorem gX11_get_0 {E : EV} {Q : Po} {μ : Mem} {x1 : Int32} {x2 : Int32} {x3 : Int32} (h : Sp E MX11_isSheet [.int x1] μ (fun v m1 => ∃ r2 : Int32, v = some (.int r2) ∧ ((r2 = 0 → Q (some (.int ((-2147483648)))) m1) ∧ (¬ r2 = 0 → Sp E MX11_in [.long (Int32.toInt64 x2), .long 0, .long ((2))] m1 (fun v m4 => ∃ r5 : Int32, v = some (.int r5) ∧ ((r5 = 0 → Q (some (.int ((-2147483648)))) m4) ∧ (¬ r5 = 0 → Sp E MX11_lacks [.ref 123, .int x1, .int x2, .int x3] m4 (fun v m7 => ∃ r8 : Int32, v = some (.int r8) ∧ ((r8 = 0 → vp_in ((60 * x1) + x3) 240 ∧ (Q (some (.int (m7.1 126 (((60 * x1) + x3).toNatClampNeg)))) m7)) ∧ (¬ r8 = 0 → Q (some (.int ((-2147483648)))) m7)))))))))) : Ex E MX11_get Q 0 [(0, .ref 123), (1, .int x1), (2, .int x2), (3, .int x3)] [] μ := by
  refine x_iload_n 1 rfl rfl (dk zX11_get 0 rfl) ?_
  refine x_callS (as := [.int x1]) (st := []) rfl okRX11_98 npX11_isSheet ⟨Nat.le_of_ble_eq_true rfl, Nat.le_of_ble_eq_true rfl⟩ (Nat.le_of_ble_eq_true rfl) (dk zX11_get 1 rfl) ?_
  refine h.mono ?_
  rintro _ m1 ⟨r2, rfl, hm1⟩
  show Ex E MX11_get Q 4 [(0, .ref 123), (1, .int x1), (2, .int x2), (3, .int x3)] [.int r2] m1
  refine x_if_eq (tgt := 29) (by decide) (dk zX11_get 2 rfl) (fun c3 => ?_) (fun c3 => ?_)
  · have hc3t := hm1.1 c3
    refine x_ldc (v := -2147483648) rfl wkRX11_116 (dk zX11_get 15 rfl) ?_
    exact x_iret (ty := .int) rfl rfl (dk zX11_get 16 rfl) hc3t
  · have hc3f := hm1.2 c3
    refine x_iload_n 2 rfl rfl (dk zX11_get 3 rfl) ?_
    refine x_i2l (dk zX11_get 4 rfl) ?_
    refine x_lconst (v := 0) (by decide) (dk zX11_get 5 rfl) ?_
    refine x_ldc2 (v := 2) rfl wkRX11_102 (dk zX11_get 6 rfl) ?_
    refine x_callS (as := [.long (Int32.toInt64 x2), .long 0, .long ((2))]) (st := []) rfl okRX11_86 npX11_in ⟨Nat.le_of_ble_eq_true rfl, Nat.le_of_ble_eq_true rfl⟩ (Nat.le_of_ble_eq_true rfl) (dk zX11_get 7 rfl) ?_
    refine hc3f.mono ?_
    rintro _ m4 ⟨r5, rfl, hm4⟩
    show Ex E MX11_get Q 16 [(0, .ref 123), (1, .int x1), (2, .int x2), (3, .int x3)] [.int r5] m4
    refine x_if_eq (tgt := 29) (by decide) (dk zX11_get 8 rfl) (fun c6 => ?_) (fun c6 => ?_)
    · have hc6t := hm4.1 c6
      refine x_ldc (v := -2147483648) rfl wkRX11_116 (dk zX11_get 15 rfl) ?_
      exact x_iret (ty := .int) rfl rfl (dk zX11_get 16 rfl) hc6t
    · have hc6f := hm4.2 c6
      refine x_aload_n 0 rfl rfl (dk zX11_get 9 rfl) ?_
      refine x_iload_n 1 rfl rfl (dk zX11_get 10 rfl) ?_
      refine x_iload_n 2 rfl rfl (dk zX11_get 11 rfl) ?_
      refine x_iload_n 3 rfl rfl (dk zX11_get 12 rfl) ?_
      refine x_callV (as := [.int x1, .int x2, .int x3]) (o := 123) (ci := 11) (st := []) rfl okRX11_108 npX11_lacks ⟨Nat.le_of_ble_eq_true rfl, Nat.le_of_ble_eq_true rfl⟩ k123 (by decide) rfl (Nat.le_of_ble_eq_true rfl) (dk zX11_get 13 rfl) ?_
      refine hc6f.mono ?_
      rintro _ m7 ⟨r8, rfl, hm7⟩
      show Ex E MX11_get Q 26 [(0, .ref 123), (1, .int x1), (2, .int x2), (3, .int x3)] [.int r8] m7
      refine x_if_eq (tgt := 32) (by decide) (dk zX11_get 14 rfl) (fun c9 => ?_) (fun c9 => ?_)
      · have hc9t := hm7.1 c9
        refine x_aload_n 0 rfl rfl (dk zX11_get 17 rfl) ?_
        refine gf11_2 (r := 126) rfl k123 r123_2 (dk zX11_get 18 rfl) ?_
        refine x_bipush (v := 60) (by decide) (dk zX11_get 19 rfl) ?_
        refine x_iload_n 1 rfl rfl (dk zX11_get 20 rfl) ?_
        refine x_imul (dk zX11_get 21 rfl) ?_
        refine x_iload_n 3 rfl rfl (dk zX11_get 22 rfl) ?_
        refine x_iadd (dk zX11_get 23 rfl) ?_
        have b10 := hc9t.1
        have hb10 := hc9t.2
        refine y_iald (j := ((60 * x1) + x3).toNatClampNeg) k126 l126 b10 rfl (dk zX11_get 24 rfl) ?_
        exact x_iret (ty := .int) rfl rfl (dk zX11_get 25 rfl) hb10
      · have hc9f := hm7.2 c9
        refine x_ldc (v := -2147483648) rfl wkRX11_116 (dk zX11_get 15 rfl) ?_
        exact x_iret (ty := .int) rfl rfl (dk zX11_get 16 rfl) hc9f
set_option maxRecDepth 20000 in
set_option maxHeartbeats 2000000 in
theorem gX11_copy_0 {E : EV} {Q : Po} {μ : Mem} {x1 : Int32} {x2 : Int32} {x3 : Int32} {x4 : Int32} {x5 : Int32} (h : Sp E MX11_isSheet [.int x1] μ (fun v m1 => ∃ r2 : Int32, v = some (.int r2) ∧ ((r2 = 0 → Q (some (.int ((-2)))) m1) ∧ (¬ r2 = 0 → Sp E MX11_isSheet [.int x3] m1 (fun v m4 => ∃ r5 : Int32, v = some (.int r5) ∧ ((¬ r5 = 0 → vp_in x1 4 ∧ ((((m4.1 124 x1.toNatClampNeg) < 0 → Sp E MX11_met [.ref 123, .int 1] m4 (fun v m9 => ∃ r10 : Int32, v = some (.int r10) ∧ Q (some (.int r10)) m9)) ∧ (¬ (m4.1 124 x1.toNatClampNeg) < 0 → vp_in x3 4 ∧ (((0 ≤ (m4.1 124 x3.toNatClampNeg) → (((m4.1 124 x1.toNatClampNeg) = (m4.1 124 x3.toNatClampNeg) → ((x2 < 0 → Sp E MX11_met [.ref 123, .int 2] m4 (fun v m15 => ∃ r16 : Int32, v = some (.int r16) ∧ Q (some (.int r16)) m15)) ∧ (¬ x2 < 0 → ((x4 < 0 → Sp E MX11_met [.ref 123, .int 2] m4 (fun v m18 => ∃ r19 : Int32, v = some (.int r19) ∧ Q (some (.int r19)) m18)) ∧ (¬ x4 < 0 → ((x5 < 0 → Sp E MX11_met [.ref 123, .int 2] m4 (fun v m21 => ∃ r22 : Int32, v = some (.int r22) ∧ Q (some (.int r22)) m21)) ∧ (¬ x5 < 0 → ((0 < (lg_cmp ((Int32.toInt64 x2) + (Int32.toInt64 x5)) (Int32.toInt64 (m4.1 125 x1.toNatClampNeg))) → Sp E MX11_met [.ref 123, .int 2] m4 (fun v m24 => ∃ r25 : Int32, v = some (.int r25) ∧ Q (some (.int r25)) m24)) ∧ (¬ 0 < (lg_cmp ((Int32.toInt64 x2) + (Int32.toInt64 x5)) (Int32.toInt64 (m4.1 125 x1.toNatClampNeg))) → (((lg_cmp ((Int32.toInt64 x4) + (Int32.toInt64 x5)) (Int32.toInt64 (m4.1 125 x3.toNatClampNeg))) ≤ 0 → Ex E MX11_copy Q 120 [(0, .ref 123), (1, .int x1), (2, .int x2), (3, .int x3), (4, .int x4), (5, .int x5), (6, .int 0)] [] m4) ∧ (¬ (lg_cmp ((Int32.toInt64 x4) + (Int32.toInt64 x5)) (Int32.toInt64 (m4.1 125 x3.toNatClampNeg))) ≤ 0 → Sp E MX11_met [.ref 123, .int 2] m4 (fun v m27 => ∃ r28 : Int32, v = some (.int r28) ∧ Q (some (.int r28)) m27)))))))))))) ∧ (¬ (m4.1 124 x1.toNatClampNeg) = (m4.1 124 x3.toNatClampNeg) → Sp E MX11_met [.ref 123, .int 4] m4 (fun v m29 => ∃ r30 : Int32, v = some (.int r30) ∧ Q (some (.int r30)) m29)))) ∧ (¬ 0 ≤ (m4.1 124 x3.toNatClampNeg) → Sp E MX11_met [.ref 123, .int 1] m4 (fun v m31 => ∃ r32 : Int32, v = some (.int r32) ∧ Q (some (.int r32)) m31)))))))) ∧ (r5 = 0 → Q (some (.int ((-2)))) m4))))))) : Ex E MX11_copy Q 0 [(0, .ref 123), (1, .int x1), (2, .int x2), (3, .int x3), (4, .int x4), (5, .int x5)] [] μ := by
  refine x_iload_n 1 rfl rfl (dk zX11_copy 0 rfl) ?_
  refine x_callS (as := [.int x1]) (st := []) rfl okRX11_98 npX11_isSheet ⟨Nat.le_of_ble_eq_true rfl, Nat.le_of_ble_eq_true rfl⟩ (Nat.le_of_ble_eq_true rfl) (dk zX11_copy 1 rfl) ?_
  refine h.mono ?_
  rintro _ m1 ⟨r2, rfl, hm1⟩
  show Ex E MX11_copy Q 4 [(0, .ref 123), (1, .int x1), (2, .int x2), (3, .int x3), (4, .int x4), (5, .int x5)] [.int r2] m1
  refine x_if_eq (tgt := 14) (by decide) (dk zX11_copy 2 rfl) (fun c3 => ?_) (fun c3 => ?_)
  · have hc3t := hm1.1 c3
    refine x_bipush (v := -2) (by decide) (dk zX11_copy 6 rfl) ?_
    exact x_iret (ty := .int) rfl rfl (dk zX11_copy 7 rfl) hc3t
  · have hc3f := hm1.2 c3
    refine x_iload_n 3 rfl rfl (dk zX11_copy 3 rfl) ?_
    refine x_callS (as := [.int x3]) (st := []) rfl okRX11_98 npX11_isSheet ⟨Nat.le_of_ble_eq_true rfl, Nat.le_of_ble_eq_true rfl⟩ (Nat.le_of_ble_eq_true rfl) (dk zX11_copy 4 rfl) ?_
    refine hc3f.mono ?_
    rintro _ m4 ⟨r5, rfl, hm4⟩
    show Ex E MX11_copy Q 11 [(0, .ref 123), (1, .int x1), (2, .int x2), (3, .int x3), (4, .int x4), (5, .int x5)] [.int r5] m4
    refine x_if_ne (tgt := 17) (by decide) (dk zX11_copy 5 rfl) (fun c6 => ?_) (fun c6 => ?_)
    · have hc6t := hm4.1 c6
      refine x_aload_n 0 rfl rfl (dk zX11_copy 8 rfl) ?_
      refine gf11_0 (r := 124) rfl k123 r123_0 (dk zX11_copy 9 rfl) ?_
      refine x_iload_n 1 rfl rfl (dk zX11_copy 10 rfl) ?_
      have b7 := hc6t.1
      have hb7 := hc6t.2
      refine y_iald (j := x1.toNatClampNeg) k124 l124 b7 rfl (dk zX11_copy 11 rfl) ?_
      refine x_if_lt (tgt := 35) (by decide) (dk zX11_copy 12 rfl) (fun c8 => ?_) (fun c8 => ?_)
      · have hc8t := hb7.1 c8
        refine x_aload_n 0 rfl rfl (dk zX11_copy 18 rfl) ?_
        refine x_iconst (v := 1) (by decide) (dk zX11_copy 19 rfl) ?_
        refine x_callV (as := [.int 1]) (o := 123) (ci := 11) (st := []) rfl okRX11_104 npX11_met ⟨Nat.le_of_ble_eq_true rfl, Nat.le_of_ble_eq_true rfl⟩ k123 (by decide) rfl (Nat.le_of_ble_eq_true rfl) (dk zX11_copy 20 rfl) ?_
        refine hc8t.mono ?_
        rintro _ m9 ⟨r10, rfl, hm9⟩
        show Ex E MX11_copy Q 40 [(0, .ref 123), (1, .int x1), (2, .int x2), (3, .int x3), (4, .int x4), (5, .int x5)] [.int r10] m9
        exact x_iret (ty := .int) rfl rfl (dk zX11_copy 21 rfl) hm9
      · have hc8f := hb7.2 c8
        refine x_aload_n 0 rfl rfl (dk zX11_copy 13 rfl) ?_
        refine gf11_0 (r := 124) rfl k123 r123_0 (dk zX11_copy 14 rfl) ?_
        refine x_iload_n 3 rfl rfl (dk zX11_copy 15 rfl) ?_
        have b11 := hc8f.1
        have hb11 := hc8f.2
        refine y_iald (j := x3.toNatClampNeg) k124 l124 b11 rfl (dk zX11_copy 16 rfl) ?_
        refine x_if_ge (tgt := 41) (by decide) (dk zX11_copy 17 rfl) (fun c12 => ?_) (fun c12 => ?_)
        · have hc12t := hb11.1 c12
          refine x_aload_n 0 rfl rfl (dk zX11_copy 22 rfl) ?_
          refine gf11_0 (r := 124) rfl k123 r123_0 (dk zX11_copy 23 rfl) ?_
          refine x_iload_n 1 rfl rfl (dk zX11_copy 24 rfl) ?_
          refine y_iald (j := x1.toNatClampNeg) k124 l124 b7 rfl (dk zX11_copy 25 rfl) ?_
          refine x_aload_n 0 rfl rfl (dk zX11_copy 26 rfl) ?_
          refine gf11_0 (r := 124) rfl k123 r123_0 (dk zX11_copy 27 rfl) ?_
          refine x_iload_n 3 rfl rfl (dk zX11_copy 28 rfl) ?_
          refine y_iald (j := x3.toNatClampNeg) k124 l124 b11 rfl (dk zX11_copy 29 rfl) ?_
          refine x_icmp_eq (tgt := 62) (by decide) (dk zX11_copy 30 rfl) (fun c13 => ?_) (fun c13 => ?_)
          · have hc13t := hc12t.1 c13
            refine x_iload_n 2 rfl rfl (dk zX11_copy 35 rfl) ?_
            refine x_if_lt (tgt := 111) (by decide) (dk zX11_copy 36 rfl) (fun c14 => ?_) (fun c14 => ?_)
            · have hc14t := hc13t.1 c14
              refine x_aload_n 0 rfl rfl (dk zX11_copy 65 rfl) ?_
              refine x_iconst (v := 2) (by decide) (dk zX11_copy 66 rfl) ?_
              refine x_callV (as := [.int 2]) (o := 123) (ci := 11) (st := []) rfl okRX11_104 npX11_met ⟨Nat.le_of_ble_eq_true rfl, Nat.le_of_ble_eq_true rfl⟩ k123 (by decide) rfl (Nat.le_of_ble_eq_true rfl) (dk zX11_copy 67 rfl) ?_
              refine hc14t.mono ?_
              rintro _ m15 ⟨r16, rfl, hm15⟩
              show Ex E MX11_copy Q 116 [(0, .ref 123), (1, .int x1), (2, .int x2), (3, .int x3), (4, .int x4), (5, .int x5)] [.int r16] m15
              exact x_iret (ty := .int) rfl rfl (dk zX11_copy 68 rfl) hm15
            · have hc14f := hc13t.2 c14
              refine x_iload 4 rfl (dk zX11_copy 37 rfl) ?_
              refine x_if_lt (tgt := 111) (by decide) (dk zX11_copy 38 rfl) (fun c17 => ?_) (fun c17 => ?_)
              · have hc17t := hc14f.1 c17
                refine x_aload_n 0 rfl rfl (dk zX11_copy 65 rfl) ?_
                refine x_iconst (v := 2) (by decide) (dk zX11_copy 66 rfl) ?_
                refine x_callV (as := [.int 2]) (o := 123) (ci := 11) (st := []) rfl okRX11_104 npX11_met ⟨Nat.le_of_ble_eq_true rfl, Nat.le_of_ble_eq_true rfl⟩ k123 (by decide) rfl (Nat.le_of_ble_eq_true rfl) (dk zX11_copy 67 rfl) ?_
                refine hc17t.mono ?_
                rintro _ m18 ⟨r19, rfl, hm18⟩
                show Ex E MX11_copy Q 116 [(0, .ref 123), (1, .int x1), (2, .int x2), (3, .int x3), (4, .int x4), (5, .int x5)] [.int r19] m18
                exact x_iret (ty := .int) rfl rfl (dk zX11_copy 68 rfl) hm18
              · have hc17f := hc14f.2 c17
                refine x_iload 5 rfl (dk zX11_copy 39 rfl) ?_
                refine x_if_lt (tgt := 111) (by decide) (dk zX11_copy 40 rfl) (fun c20 => ?_) (fun c20 => ?_)
                · have hc20t := hc17f.1 c20
                  refine x_aload_n 0 rfl rfl (dk zX11_copy 65 rfl) ?_
                  refine x_iconst (v := 2) (by decide) (dk zX11_copy 66 rfl) ?_
                  refine x_callV (as := [.int 2]) (o := 123) (ci := 11) (st := []) rfl okRX11_104 npX11_met ⟨Nat.le_of_ble_eq_true rfl, Nat.le_of_ble_eq_true rfl⟩ k123 (by decide) rfl (Nat.le_of_ble_eq_true rfl) (dk zX11_copy 67 rfl) ?_
                  refine hc20t.mono ?_
                  rintro _ m21 ⟨r22, rfl, hm21⟩
                  show Ex E MX11_copy Q 116 [(0, .ref 123), (1, .int x1), (2, .int x2), (3, .int x3), (4, .int x4), (5, .int x5)] [.int r22] m21
                  exact x_iret (ty := .int) rfl rfl (dk zX11_copy 68 rfl) hm21
                · have hc20f := hc17f.2 c20
                  refine x_iload_n 2 rfl rfl (dk zX11_copy 41 rfl) ?_
                  refine x_i2l (dk zX11_copy 42 rfl) ?_
                  refine x_iload 5 rfl (dk zX11_copy 43 rfl) ?_
                  refine x_i2l (dk zX11_copy 44 rfl) ?_
                  refine x_ladd (dk zX11_copy 45 rfl) ?_
                  refine x_aload_n 0 rfl rfl (dk zX11_copy 46 rfl) ?_
                  refine gf11_1 (r := 125) rfl k123 r123_1 (dk zX11_copy 47 rfl) ?_
                  refine x_iload_n 1 rfl rfl (dk zX11_copy 48 rfl) ?_
                  refine y_iald (j := x1.toNatClampNeg) k125 l125 b7 rfl (dk zX11_copy 49 rfl) ?_
                  refine x_i2l (dk zX11_copy 50 rfl) ?_
                  refine x_lcmp (dk zX11_copy 51 rfl) ?_
                  refine x_if_gt (tgt := 111) (by decide) (dk zX11_copy 52 rfl) (fun c23 => ?_) (fun c23 => ?_)
                  · have hc23t := hc20f.1 c23
                    refine x_aload_n 0 rfl rfl (dk zX11_copy 65 rfl) ?_
                    refine x_iconst (v := 2) (by decide) (dk zX11_copy 66 rfl) ?_
                    refine x_callV (as := [.int 2]) (o := 123) (ci := 11) (st := []) rfl okRX11_104 npX11_met ⟨Nat.le_of_ble_eq_true rfl, Nat.le_of_ble_eq_true rfl⟩ k123 (by decide) rfl (Nat.le_of_ble_eq_true rfl) (dk zX11_copy 67 rfl) ?_
                    refine hc23t.mono ?_
                    rintro _ m24 ⟨r25, rfl, hm24⟩
                    show Ex E MX11_copy Q 116 [(0, .ref 123), (1, .int x1), (2, .int x2), (3, .int x3), (4, .int x4), (5, .int x5)] [.int r25] m24
                    exact x_iret (ty := .int) rfl rfl (dk zX11_copy 68 rfl) hm24
                  · have hc23f := hc20f.2 c23
                    refine x_iload 4 rfl (dk zX11_copy 53 rfl) ?_
                    refine x_i2l (dk zX11_copy 54 rfl) ?_
                    refine x_iload 5 rfl (dk zX11_copy 55 rfl) ?_
                    refine x_i2l (dk zX11_copy 56 rfl) ?_
                    refine x_ladd (dk zX11_copy 57 rfl) ?_
                    refine x_aload_n 0 rfl rfl (dk zX11_copy 58 rfl) ?_
                    refine gf11_1 (r := 125) rfl k123 r123_1 (dk zX11_copy 59 rfl) ?_
                    refine x_iload_n 3 rfl rfl (dk zX11_copy 60 rfl) ?_
                    refine y_iald (j := x3.toNatClampNeg) k125 l125 b11 rfl (dk zX11_copy 61 rfl) ?_
                    refine x_i2l (dk zX11_copy 62 rfl) ?_
                    refine x_lcmp (dk zX11_copy 63 rfl) ?_
                    refine x_if_le (tgt := 117) (by decide) (dk zX11_copy 64 rfl) (fun c26 => ?_) (fun c26 => ?_)
                    · have hc26t := hc23f.1 c26
                      refine x_iconst (v := 0) (by decide) (dk zX11_copy 69 rfl) ?_
                      refine x_istoreG (l' := [(0, .ref 123), (1, .int x1), (2, .int x2), (3, .int x3), (4, .int x4), (5, .int x5), (6, .int 0)]) [1, 2, 3, 4, 5, 6, 0] rfl (by decide) (dk zX11_copy 70 rfl) ?_
                      exact hc26t
                    · have hc26f := hc23f.2 c26
                      refine x_aload_n 0 rfl rfl (dk zX11_copy 65 rfl) ?_
                      refine x_iconst (v := 2) (by decide) (dk zX11_copy 66 rfl) ?_
                      refine x_callV (as := [.int 2]) (o := 123) (ci := 11) (st := []) rfl okRX11_104 npX11_met ⟨Nat.le_of_ble_eq_true rfl, Nat.le_of_ble_eq_true rfl⟩ k123 (by decide) rfl (Nat.le_of_ble_eq_true rfl) (dk zX11_copy 67 rfl) ?_
                      refine hc26f.mono ?_
                      rintro _ m27 ⟨r28, rfl, hm27⟩
                      show Ex E MX11_copy Q 116 [(0, .ref 123), (1, .int x1), (2, .int x2), (3, .int x3), (4, .int x4), (5, .int x5)] [.int r28] m27
                      exact x_iret (ty := .int) rfl rfl (dk zX11_copy 68 rfl) hm27
          · have hc13f := hc12t.2 c13
            refine x_aload_n 0 rfl rfl (dk zX11_copy 31 rfl) ?_
            refine x_iconst (v := 4) (by decide) (dk zX11_copy 32 rfl) ?_
            refine x_callV (as := [.int 4]) (o := 123) (ci := 11) (st := []) rfl okRX11_104 npX11_met ⟨Nat.le_of_ble_eq_true rfl, Nat.le_of_ble_eq_true rfl⟩ k123 (by decide) rfl (Nat.le_of_ble_eq_true rfl) (dk zX11_copy 33 rfl) ?_
            refine hc13f.mono ?_
            rintro _ m29 ⟨r30, rfl, hm29⟩
            show Ex E MX11_copy Q 61 [(0, .ref 123), (1, .int x1), (2, .int x2), (3, .int x3), (4, .int x4), (5, .int x5)] [.int r30] m29
            exact x_iret (ty := .int) rfl rfl (dk zX11_copy 34 rfl) hm29
        · have hc12f := hb11.2 c12
          refine x_aload_n 0 rfl rfl (dk zX11_copy 18 rfl) ?_
          refine x_iconst (v := 1) (by decide) (dk zX11_copy 19 rfl) ?_
          refine x_callV (as := [.int 1]) (o := 123) (ci := 11) (st := []) rfl okRX11_104 npX11_met ⟨Nat.le_of_ble_eq_true rfl, Nat.le_of_ble_eq_true rfl⟩ k123 (by decide) rfl (Nat.le_of_ble_eq_true rfl) (dk zX11_copy 20 rfl) ?_
          refine hc12f.mono ?_
          rintro _ m31 ⟨r32, rfl, hm31⟩
          show Ex E MX11_copy Q 40 [(0, .ref 123), (1, .int x1), (2, .int x2), (3, .int x3), (4, .int x4), (5, .int x5)] [.int r32] m31
          exact x_iret (ty := .int) rfl rfl (dk zX11_copy 21 rfl) hm31
    · have hc6f := hm4.2 c6
      refine x_bipush (v := -2) (by decide) (dk zX11_copy 6 rfl) ?_
      exact x_iret (ty := .int) rfl rfl (dk zX11_copy 7 rfl) hc6f
set_option maxRecDepth 20000 in
set_option maxHeartbeats 2000000 in
theorem gX11_copy_120 {E : EV} {Q : Po} {μ : Mem} {x1 : Int32} {x2 : Int32} {x3 : Int32} {x4 : Int32} {x5 : Int32} {x6 : Int32} (h : ((x5 ≤ x6 → Ex E MX11_copy Q 157 [(0, .ref 123), (1, .int x1), (2, .int x2), (3, .int x3), (4, .int x4), (5, .int x5), (6, .int 0)] [] μ) ∧ (¬ x5 ≤ x6 → vp_in (((60 * x1) + x2) + x6) 240 ∧ (∀ v3 : Int32, v3 = μ.1 126 ((((60 * x1) + x2) + x6).toNatClampNeg) → vp_in x6 60 ∧ (∀ v5 : Int32, v5 = x6 + 1 → Ex E MX11_copy Q 120 [(0, .ref 123), (1, .int x1), (2, .int x2), (3, .int x3), (4, .int x4), (5, .int x5), (6, .int v5)] [] (mI μ 127 x6.toNatClampNeg v3)))))) : Ex E MX11_copy Q 120 [(0, .ref 123), (1, .int x1), (2, .int x2), (3, .int x3), (4, .int x4), (5, .int x5), (6, .int x6)] [] μ := by
  refine x_iload 6 rfl (dk zX11_copy 71 rfl) ?_
  refine x_iload 5 rfl (dk zX11_copy 72 rfl) ?_
  refine x_icmp_ge (tgt := 154) (by decide) (dk zX11_copy 73 rfl) (fun c1 => ?_) (fun c1 => ?_)
  · have hc1t := h.1 c1
    refine x_iconst (v := 0) (by decide) (dk zX11_copy 90 rfl) ?_
    refine x_istoreG (l' := [(0, .ref 123), (1, .int x1), (2, .int x2), (3, .int x3), (4, .int x4), (5, .int x5), (6, .int 0)]) [1, 2, 3, 4, 5, 6, 0] rfl (by decide) (dk zX11_copy 91 rfl) ?_
    exact hc1t
  · have hc1f := h.2 c1
    refine x_aload_n 0 rfl rfl (dk zX11_copy 74 rfl) ?_
    refine gf11_3 (r := 127) rfl k123 r123_3 (dk zX11_copy 75 rfl) ?_
    refine x_iload 6 rfl (dk zX11_copy 76 rfl) ?_
    refine x_aload_n 0 rfl rfl (dk zX11_copy 77 rfl) ?_
    refine gf11_2 (r := 126) rfl k123 r123_2 (dk zX11_copy 78 rfl) ?_
    refine x_bipush (v := 60) (by decide) (dk zX11_copy 79 rfl) ?_
    refine x_iload_n 1 rfl rfl (dk zX11_copy 80 rfl) ?_
    refine x_imul (dk zX11_copy 81 rfl) ?_
    refine x_iload_n 2 rfl rfl (dk zX11_copy 82 rfl) ?_
    refine x_iadd (dk zX11_copy 83 rfl) ?_
    refine x_iload 6 rfl (dk zX11_copy 84 rfl) ?_
    refine x_iadd (dk zX11_copy 85 rfl) ?_
    have b2 := hc1f.1
    have hb2 := hc1f.2
    refine y_iald (j := (((60 * x1) + x2) + x6).toNatClampNeg) k126 l126 b2 rfl (dk zX11_copy 86 rfl) ?_
    refine x_topi (fun v3 ev3 => ?_)
    have hv3 := hb2 v3 ev3
    have b4 := hv3.1
    have hb4 := hv3.2
    refine y_iast (j := x6.toNatClampNeg) k127 l127 b4 rfl (dk zX11_copy 87 rfl) ?_
    obtain ⟨v5, ev5⟩ : ∃ y : Int32, y = x6 + 1 := ⟨_, rfl⟩
    have hv5 := hb4 v5 ev5
    refine x_iinc (v := v5) (l' := [(0, .ref 123), (1, .int x1), (2, .int x2), (3, .int x3), (4, .int x4), (5, .int x5), (6, .int v5)]) 6 rfl (by rw [ev5]; rfl) [1, 2, 3, 4, 5, 6, 0] rfl (by decide) (dk zX11_copy 88 rfl) ?_
    refine x_goto (tgt := 120) (by decide) (dk zX11_copy 89 rfl) ?_
    exact hv5
set_option maxRecDepth 20000 in
set_option maxHeartbeats 2000000 in
theorem gX11_copy_157 {E : EV} {Q : Po} {μ : Mem} {x1 : Int32} {x2 : Int32} {x3 : Int32} {x4 : Int32} {x5 : Int32} {x6 : Int32} (h : ((x5 ≤ x6 → Q (some (.int 1)) μ) ∧ (¬ x5 ≤ x6 → vp_in x6 60 ∧ (∀ v3 : Int32, v3 = μ.1 127 x6.toNatClampNeg → vp_in (((60 * x3) + x4) + x6) 240 ∧ (∀ v5 : Int32, v5 = x6 + 1 → Ex E MX11_copy Q 157 [(0, .ref 123), (1, .int x1), (2, .int x2), (3, .int x3), (4, .int x4), (5, .int x5), (6, .int v5)] [] (mI μ 126 ((((60 * x3) + x4) + x6).toNatClampNeg) v3)))))) : Ex E MX11_copy Q 157 [(0, .ref 123), (1, .int x1), (2, .int x2), (3, .int x3), (4, .int x4), (5, .int x5), (6, .int x6)] [] μ := by
  refine x_iload 6 rfl (dk zX11_copy 92 rfl) ?_
  refine x_iload 5 rfl (dk zX11_copy 93 rfl) ?_
  refine x_icmp_ge (tgt := 192) (by decide) (dk zX11_copy 94 rfl) (fun c1 => ?_) (fun c1 => ?_)
  · have hc1t := h.1 c1
    refine x_iconst (v := 1) (by decide) (dk zX11_copy 111 rfl) ?_
    exact x_iret (ty := .int) rfl rfl (dk zX11_copy 112 rfl) hc1t
  · have hc1f := h.2 c1
    refine x_aload_n 0 rfl rfl (dk zX11_copy 95 rfl) ?_
    refine gf11_2 (r := 126) rfl k123 r123_2 (dk zX11_copy 96 rfl) ?_
    refine x_bipush (v := 60) (by decide) (dk zX11_copy 97 rfl) ?_
    refine x_iload_n 3 rfl rfl (dk zX11_copy 98 rfl) ?_
    refine x_imul (dk zX11_copy 99 rfl) ?_
    refine x_iload 4 rfl (dk zX11_copy 100 rfl) ?_
    refine x_iadd (dk zX11_copy 101 rfl) ?_
    refine x_iload 6 rfl (dk zX11_copy 102 rfl) ?_
    refine x_iadd (dk zX11_copy 103 rfl) ?_
    refine x_aload_n 0 rfl rfl (dk zX11_copy 104 rfl) ?_
    refine gf11_3 (r := 127) rfl k123 r123_3 (dk zX11_copy 105 rfl) ?_
    refine x_iload 6 rfl (dk zX11_copy 106 rfl) ?_
    have b2 := hc1f.1
    have hb2 := hc1f.2
    refine y_iald (j := x6.toNatClampNeg) k127 l127 b2 rfl (dk zX11_copy 107 rfl) ?_
    refine x_topi (fun v3 ev3 => ?_)
    have hv3 := hb2 v3 ev3
    have b4 := hv3.1
    have hb4 := hv3.2
    refine y_iast (j := (((60 * x3) + x4) + x6).toNatClampNeg) k126 l126 b4 rfl (dk zX11_copy 108 rfl) ?_
    obtain ⟨v5, ev5⟩ : ∃ y : Int32, y = x6 + 1 := ⟨_, rfl⟩
    have hv5 := hb4 v5 ev5
    refine x_iinc (v := v5) (l' := [(0, .ref 123), (1, .int x1), (2, .int x2), (3, .int x3), (4, .int x4), (5, .int x5), (6, .int v5)]) 6 rfl (by rw [ev5]; rfl) [1, 2, 3, 4, 5, 6, 0] rfl (by decide) (dk zX11_copy 109 rfl) ?_
    refine x_goto (tgt := 157) (by decide) (dk zX11_copy 110 rfl) ?_
    exact hv5
set_option maxRecDepth 20000 in
set_option maxHeartbeats 2000000 in
theorem gX11_isText_0 {E : EV} {Q : Po} {μ : Mem} {x0 : Int32} (h : Sp E MX11_in [.long (Int32.toInt64 x0), .long 0, .long ((3))] μ (fun v m1 => ∃ r2 : Int32, v = some (.int r2) ∧ ((r2 = 0 ∨ r2 = 1) ∧ Q (some (.int r2)) m1))) : Ex E MX11_isText Q 0 [(0, .int x0)] [] μ := by
  refine x_iload_n 0 rfl rfl (dk zX11_isText 0 rfl) ?_
  refine x_i2l (dk zX11_isText 1 rfl) ?_
  refine x_lconst (v := 0) (by decide) (dk zX11_isText 2 rfl) ?_
  refine x_ldc2 (v := 3) rfl wkRX11_96 (dk zX11_isText 3 rfl) ?_
  refine x_callS (as := [.long (Int32.toInt64 x0), .long 0, .long ((3))]) (st := []) rfl okRX11_86 npX11_in ⟨Nat.le_of_ble_eq_true rfl, Nat.le_of_ble_eq_true rfl⟩ (Nat.le_of_ble_eq_true rfl) (dk zX11_isText 4 rfl) ?_
  refine h.mono ?_
  rintro _ m1 ⟨r2, rfl, hm1⟩
  show Ex E MX11_isText Q 9 [(0, .int x0)] [.int r2] m1
  exact x_iret rfl (nar_b hm1.1) (dk zX11_isText 5 rfl) hm1.2
set_option maxRecDepth 20000 in
set_option maxHeartbeats 2000000 in
theorem gX11_isWay_0 {E : EV} {Q : Po} {μ : Mem} {x0 : Int32} (h : Sp E MX11_in [.long (Int32.toInt64 x0), .long 1, .long ((3))] μ (fun v m1 => ∃ r2 : Int32, v = some (.int r2) ∧ ((r2 = 0 ∨ r2 = 1) ∧ Q (some (.int r2)) m1))) : Ex E MX11_isWay Q 0 [(0, .int x0)] [] μ := by
  refine x_iload_n 0 rfl rfl (dk zX11_isWay 0 rfl) ?_
  refine x_i2l (dk zX11_isWay 1 rfl) ?_
  refine x_lconst (v := 1) (by decide) (dk zX11_isWay 2 rfl) ?_
  refine x_ldc2 (v := 3) rfl wkRX11_96 (dk zX11_isWay 3 rfl) ?_
  refine x_callS (as := [.long (Int32.toInt64 x0), .long 1, .long ((3))]) (st := []) rfl okRX11_86 npX11_in ⟨Nat.le_of_ble_eq_true rfl, Nat.le_of_ble_eq_true rfl⟩ (Nat.le_of_ble_eq_true rfl) (dk zX11_isWay 4 rfl) ?_
  refine h.mono ?_
  rintro _ m1 ⟨r2, rfl, hm1⟩
  show Ex E MX11_isWay Q 9 [(0, .int x0)] [.int r2] m1
  exact x_iret rfl (nar_b hm1.1) (dk zX11_isWay 5 rfl) hm1.2
set_option maxRecDepth 20000 in
set_option maxHeartbeats 2000000 in
theorem gX11_from_0 {E : EV} {Q : Po} {μ : Mem} {x0 : Int32} (h : ((¬ x0 = 0 → Q (some (.int (20 + (30 * x0)))) μ) ∧ (x0 = 0 → Q (some (.int 0)) μ))) : Ex E MX11_from Q 0 [(0, .int x0)] [] μ := by
  refine x_iload_n 0 rfl rfl (dk zX11_from 0 rfl) ?_
  refine x_if_ne (tgt := 8) (by decide) (dk zX11_from 1 rfl) (fun c1 => ?_) (fun c1 => ?_)
  · have hc1t := h.1 c1
    refine x_bipush (v := 20) (by decide) (dk zX11_from 4 rfl) ?_
    refine x_bipush (v := 30) (by decide) (dk zX11_from 5 rfl) ?_
    refine x_iload_n 0 rfl rfl (dk zX11_from 6 rfl) ?_
    refine x_imul (dk zX11_from 7 rfl) ?_
    refine x_iadd (dk zX11_from 8 rfl) ?_
    exact x_iret (ty := .int) rfl rfl (dk zX11_from 9 rfl) hc1t
  · have hc1f := h.2 c1
    refine x_iconst (v := 0) (by decide) (dk zX11_from 2 rfl) ?_
    refine x_goto (tgt := 15) (by decide) (dk zX11_from 3 rfl) ?_
    exact x_iret (ty := .int) rfl rfl (dk zX11_from 9 rfl) hc1f
set_option maxRecDepth 20000 in
set_option maxHeartbeats 2000000 in
theorem gX11_type_0 {E : EV} {Q : Po} {μ : Mem} {x1 : Int32} {x2 : Int32} (h : Sp E MX11_isText [.int x1] μ (fun v m1 => ∃ r2 : Int32, v = some (.int r2) ∧ ((r2 = 0 → Q (some (.int ((-2)))) m1) ∧ (¬ r2 = 0 → Sp E MX11_in [.long (Int32.toInt64 x2), .long 0, .long ((255))] m1 (fun v m4 => ∃ r5 : Int32, v = some (.int r5) ∧ ((¬ r5 = 0 → vp_in x1 4 ∧ (((¬ x1 = 0 → ((¬ (m4.1 129 x1.toNatClampNeg) = 30 → Sp E MX11_from [.int x1] m4 (fun v m10 => ∃ r11 : Int32, v = some (.int r11) ∧ vp_in (r11 + (m10.1 129 x1.toNatClampNeg)) 140 ∧ (∀ v13 : Int32, v13 = ((mI m10 128 ((r11 + (m10.1 129 x1.toNatClampNeg)).toNatClampNeg) x2).1 129 x1.toNatClampNeg) + 1 → Q (some (.int ((mI (mI m10 128 ((r11 + (m10.1 129 x1.toNatClampNeg)).toNatClampNeg) x2) 129 x1.toNatClampNeg v13).1 129 x1.toNatClampNeg))) (mI (mI m10 128 ((r11 + (m10.1 129 x1.toNatClampNeg)).toNatClampNeg) x2) 129 x1.toNatClampNeg v13)))) ∧ ((m4.1 129 x1.toNatClampNeg) = 30 → Q (some (.int ((-4)))) m4))) ∧ (x1 = 0 → ((¬ (m4.1 129 x1.toNatClampNeg) = 50 → Sp E MX11_from [.int x1] m4 (fun v m15 => ∃ r16 : Int32, v = some (.int r16) ∧ vp_in (r16 + (m15.1 129 x1.toNatClampNeg)) 140 ∧ (∀ v18 : Int32, v18 = ((mI m15 128 ((r16 + (m15.1 129 x1.toNatClampNeg)).toNatClampNeg) x2).1 129 x1.toNatClampNeg) + 1 → Q (some (.int ((mI (mI m15 128 ((r16 + (m15.1 129 x1.toNatClampNeg)).toNatClampNeg) x2) 129 x1.toNatClampNeg v18).1 129 x1.toNatClampNeg))) (mI (mI m15 128 ((r16 + (m15.1 129 x1.toNatClampNeg)).toNatClampNeg) x2) 129 x1.toNatClampNeg v18)))) ∧ ((m4.1 129 x1.toNatClampNeg) = 50 → Q (some (.int ((-4)))) m4)))))) ∧ (r5 = 0 → Q (some (.int ((-2)))) m4))))))) : Ex E MX11_type Q 0 [(0, .ref 123), (1, .int x1), (2, .int x2)] [] μ := by
  refine x_iload_n 1 rfl rfl (dk zX11_type 0 rfl) ?_
  refine x_callS (as := [.int x1]) (st := []) rfl okRX11_117 npX11_isText ⟨Nat.le_of_ble_eq_true rfl, Nat.le_of_ble_eq_true rfl⟩ (Nat.le_of_ble_eq_true rfl) (dk zX11_type 1 rfl) ?_
  refine h.mono ?_
  rintro _ m1 ⟨r2, rfl, hm1⟩
  show Ex E MX11_type Q 4 [(0, .ref 123), (1, .int x1), (2, .int x2)] [.int r2] m1
  refine x_if_eq (tgt := 19) (by decide) (dk zX11_type 2 rfl) (fun c3 => ?_) (fun c3 => ?_)
  · have hc3t := hm1.1 c3
    refine x_bipush (v := -2) (by decide) (dk zX11_type 9 rfl) ?_
    exact x_iret (ty := .int) rfl rfl (dk zX11_type 10 rfl) hc3t
  · have hc3f := hm1.2 c3
    refine x_iload_n 2 rfl rfl (dk zX11_type 3 rfl) ?_
    refine x_i2l (dk zX11_type 4 rfl) ?_
    refine x_lconst (v := 0) (by decide) (dk zX11_type 5 rfl) ?_
    refine x_ldc2 (v := 255) rfl wkRX11_120 (dk zX11_type 6 rfl) ?_
    refine x_callS (as := [.long (Int32.toInt64 x2), .long 0, .long ((255))]) (st := []) rfl okRX11_86 npX11_in ⟨Nat.le_of_ble_eq_true rfl, Nat.le_of_ble_eq_true rfl⟩ (Nat.le_of_ble_eq_true rfl) (dk zX11_type 7 rfl) ?_
    refine hc3f.mono ?_
    rintro _ m4 ⟨r5, rfl, hm4⟩
    show Ex E MX11_type Q 16 [(0, .ref 123), (1, .int x1), (2, .int x2)] [.int r5] m4
    refine x_if_ne (tgt := 22) (by decide) (dk zX11_type 8 rfl) (fun c6 => ?_) (fun c6 => ?_)
    · have hc6t := hm4.1 c6
      refine x_aload_n 0 rfl rfl (dk zX11_type 11 rfl) ?_
      refine gf11_6 (r := 129) rfl k123 r123_6 (dk zX11_type 12 rfl) ?_
      refine x_iload_n 1 rfl rfl (dk zX11_type 13 rfl) ?_
      have b7 := hc6t.1
      have hb7 := hc6t.2
      refine y_iald (j := x1.toNatClampNeg) k129 l129 b7 rfl (dk zX11_type 14 rfl) ?_
      refine x_iload_n 1 rfl rfl (dk zX11_type 15 rfl) ?_
      refine x_if_ne (tgt := 37) (by decide) (dk zX11_type 16 rfl) (fun c8 => ?_) (fun c8 => ?_)
      · have hc8t := hb7.1 c8
        refine x_bipush (v := 30) (by decide) (dk zX11_type 19 rfl) ?_
        refine x_icmp_ne (tgt := 45) (by decide) (dk zX11_type 20 rfl) (fun c9 => ?_) (fun c9 => ?_)
        · have hc9t := hc8t.1 c9
          refine x_aload_n 0 rfl rfl (dk zX11_type 23 rfl) ?_
          refine gf11_5 (r := 128) rfl k123 r123_5 (dk zX11_type 24 rfl) ?_
          refine x_iload_n 1 rfl rfl (dk zX11_type 25 rfl) ?_
          refine x_callS (as := [.int x1]) (st := [.ref 128]) rfl okRX11_122 npX11_from ⟨Nat.le_of_ble_eq_true rfl, Nat.le_of_ble_eq_true rfl⟩ (Nat.le_of_ble_eq_true rfl) (dk zX11_type 26 rfl) ?_
          refine hc9t.mono ?_
          rintro _ m10 ⟨r11, rfl, hm10⟩
          show Ex E MX11_type Q 53 [(0, .ref 123), (1, .int x1), (2, .int x2)] [.int r11, .ref 128] m10
          refine x_aload_n 0 rfl rfl (dk zX11_type 27 rfl) ?_
          refine gf11_6 (r := 129) rfl k123 r123_6 (dk zX11_type 28 rfl) ?_
          refine x_iload_n 1 rfl rfl (dk zX11_type 29 rfl) ?_
          refine y_iald (j := x1.toNatClampNeg) k129 l129 b7 rfl (dk zX11_type 30 rfl) ?_
          refine x_iadd (dk zX11_type 31 rfl) ?_
          refine x_iload_n 2 rfl rfl (dk zX11_type 32 rfl) ?_
          have b12 := hm10.1
          have hb12 := hm10.2
          refine y_iast (j := (r11 + (m10.1 129 x1.toNatClampNeg)).toNatClampNeg) k128 l128 b12 rfl (dk zX11_type 33 rfl) ?_
          refine x_aload_n 0 rfl rfl (dk zX11_type 34 rfl) ?_
          refine gf11_6 (r := 129) rfl k123 r123_6 (dk zX11_type 35 rfl) ?_
          refine x_iload_n 1 rfl rfl (dk zX11_type 36 rfl) ?_
          refine x_dup2ri (dk zX11_type 37 rfl) ?_
          refine y_iald (j := x1.toNatClampNeg) k129 l129 b7 rfl (dk zX11_type 38 rfl) ?_
          refine x_iconst (v := 1) (by decide) (dk zX11_type 39 rfl) ?_
          refine x_iadd (dk zX11_type 40 rfl) ?_
          refine x_topi (fun v13 ev13 => ?_)
          have hv13 := hb12 v13 ev13
          refine y_iast (j := x1.toNatClampNeg) k129 l129 b7 rfl (dk zX11_type 41 rfl) ?_
          refine x_aload_n 0 rfl rfl (dk zX11_type 42 rfl) ?_
          refine gf11_6 (r := 129) rfl k123 r123_6 (dk zX11_type 43 rfl) ?_
          refine x_iload_n 1 rfl rfl (dk zX11_type 44 rfl) ?_
          refine y_iald (j := x1.toNatClampNeg) k129 l129 b7 rfl (dk zX11_type 45 rfl) ?_
          exact x_iret (ty := .int) rfl rfl (dk zX11_type 46 rfl) hv13
        · have hc9f := hc8t.2 c9
          refine x_bipush (v := -4) (by decide) (dk zX11_type 21 rfl) ?_
          exact x_iret (ty := .int) rfl rfl (dk zX11_type 22 rfl) hc9f
      · have hc8f := hb7.2 c8
        refine x_bipush (v := 50) (by decide) (dk zX11_type 17 rfl) ?_
        refine x_goto (tgt := 39) (by decide) (dk zX11_type 18 rfl) ?_
        refine x_icmp_ne (tgt := 45) (by decide) (dk zX11_type 20 rfl) (fun c14 => ?_) (fun c14 => ?_)
        · have hc14t := hc8f.1 c14
          refine x_aload_n 0 rfl rfl (dk zX11_type 23 rfl) ?_
          refine gf11_5 (r := 128) rfl k123 r123_5 (dk zX11_type 24 rfl) ?_
          refine x_iload_n 1 rfl rfl (dk zX11_type 25 rfl) ?_
          refine x_callS (as := [.int x1]) (st := [.ref 128]) rfl okRX11_122 npX11_from ⟨Nat.le_of_ble_eq_true rfl, Nat.le_of_ble_eq_true rfl⟩ (Nat.le_of_ble_eq_true rfl) (dk zX11_type 26 rfl) ?_
          refine hc14t.mono ?_
          rintro _ m15 ⟨r16, rfl, hm15⟩
          show Ex E MX11_type Q 53 [(0, .ref 123), (1, .int x1), (2, .int x2)] [.int r16, .ref 128] m15
          refine x_aload_n 0 rfl rfl (dk zX11_type 27 rfl) ?_
          refine gf11_6 (r := 129) rfl k123 r123_6 (dk zX11_type 28 rfl) ?_
          refine x_iload_n 1 rfl rfl (dk zX11_type 29 rfl) ?_
          refine y_iald (j := x1.toNatClampNeg) k129 l129 b7 rfl (dk zX11_type 30 rfl) ?_
          refine x_iadd (dk zX11_type 31 rfl) ?_
          refine x_iload_n 2 rfl rfl (dk zX11_type 32 rfl) ?_
          have b17 := hm15.1
          have hb17 := hm15.2
          refine y_iast (j := (r16 + (m15.1 129 x1.toNatClampNeg)).toNatClampNeg) k128 l128 b17 rfl (dk zX11_type 33 rfl) ?_
          refine x_aload_n 0 rfl rfl (dk zX11_type 34 rfl) ?_
          refine gf11_6 (r := 129) rfl k123 r123_6 (dk zX11_type 35 rfl) ?_
          refine x_iload_n 1 rfl rfl (dk zX11_type 36 rfl) ?_
          refine x_dup2ri (dk zX11_type 37 rfl) ?_
          refine y_iald (j := x1.toNatClampNeg) k129 l129 b7 rfl (dk zX11_type 38 rfl) ?_
          refine x_iconst (v := 1) (by decide) (dk zX11_type 39 rfl) ?_
          refine x_iadd (dk zX11_type 40 rfl) ?_
          refine x_topi (fun v18 ev18 => ?_)
          have hv18 := hb17 v18 ev18
          refine y_iast (j := x1.toNatClampNeg) k129 l129 b7 rfl (dk zX11_type 41 rfl) ?_
          refine x_aload_n 0 rfl rfl (dk zX11_type 42 rfl) ?_
          refine gf11_6 (r := 129) rfl k123 r123_6 (dk zX11_type 43 rfl) ?_
          refine x_iload_n 1 rfl rfl (dk zX11_type 44 rfl) ?_
          refine y_iald (j := x1.toNatClampNeg) k129 l129 b7 rfl (dk zX11_type 45 rfl) ?_
          exact x_iret (ty := .int) rfl rfl (dk zX11_type 46 rfl) hv18
        · have hc14f := hc8f.2 c14
          refine x_bipush (v := -4) (by decide) (dk zX11_type 21 rfl) ?_
          exact x_iret (ty := .int) rfl rfl (dk zX11_type 22 rfl) hc14f
    · have hc6f := hm4.2 c6
      refine x_bipush (v := -2) (by decide) (dk zX11_type 9 rfl) ?_
      exact x_iret (ty := .int) rfl rfl (dk zX11_type 10 rfl) hc6f
set_option maxRecDepth 20000 in
set_option maxHeartbeats 2000000 in
theorem gX11_wipe_0 {E : EV} {Q : Po} {μ : Mem} {x1 : Int32} (h : Sp E MX11_isText [.int x1] μ (fun v m1 => ∃ r2 : Int32, v = some (.int r2) ∧ ((¬ r2 = 0 → vp_in x1 4 ∧ (∀ v5 : Int32, v5 = m1.1 129 x1.toNatClampNeg → Q (some (.int v5)) (mI m1 129 x1.toNatClampNeg 0))) ∧ (r2 = 0 → Q (some (.int ((-2)))) m1)))) : Ex E MX11_wipe Q 0 [(0, .ref 123), (1, .int x1)] [] μ := by
  refine x_iload_n 1 rfl rfl (dk zX11_wipe 0 rfl) ?_
  refine x_callS (as := [.int x1]) (st := []) rfl okRX11_117 npX11_isText ⟨Nat.le_of_ble_eq_true rfl, Nat.le_of_ble_eq_true rfl⟩ (Nat.le_of_ble_eq_true rfl) (dk zX11_wipe 1 rfl) ?_
  refine h.mono ?_
  rintro _ m1 ⟨r2, rfl, hm1⟩
  show Ex E MX11_wipe Q 4 [(0, .ref 123), (1, .int x1)] [.int r2] m1
  refine x_if_ne (tgt := 10) (by decide) (dk zX11_wipe 2 rfl) (fun c3 => ?_) (fun c3 => ?_)
  · have hc3t := hm1.1 c3
    refine x_aload_n 0 rfl rfl (dk zX11_wipe 5 rfl) ?_
    refine gf11_6 (r := 129) rfl k123 r123_6 (dk zX11_wipe 6 rfl) ?_
    refine x_iload_n 1 rfl rfl (dk zX11_wipe 7 rfl) ?_
    have b4 := hc3t.1
    have hb4 := hc3t.2
    refine y_iald (j := x1.toNatClampNeg) k129 l129 b4 rfl (dk zX11_wipe 8 rfl) ?_
    refine x_topi (fun v5 ev5 => ?_)
    have hv5 := hb4 v5 ev5
    refine x_istore_n (k := 2) (l' := [(0, .ref 123), (1, .int x1), (2, .int v5)]) [1, 2, 0] rfl rfl (by decide) (dk zX11_wipe 9 rfl) ?_
    refine x_aload_n 0 rfl rfl (dk zX11_wipe 10 rfl) ?_
    refine gf11_6 (r := 129) rfl k123 r123_6 (dk zX11_wipe 11 rfl) ?_
    refine x_iload_n 1 rfl rfl (dk zX11_wipe 12 rfl) ?_
    refine x_iconst (v := 0) (by decide) (dk zX11_wipe 13 rfl) ?_
    refine y_iast (j := x1.toNatClampNeg) k129 l129 b4 rfl (dk zX11_wipe 14 rfl) ?_
    refine x_iload_n 2 rfl rfl (dk zX11_wipe 15 rfl) ?_
    exact x_iret (ty := .int) rfl rfl (dk zX11_wipe 16 rfl) hv5
  · have hc3f := hm1.2 c3
    refine x_bipush (v := -2) (by decide) (dk zX11_wipe 3 rfl) ?_
    exact x_iret (ty := .int) rfl rfl (dk zX11_wipe 4 rfl) hc3f
set_option maxRecDepth 20000 in
set_option maxHeartbeats 2000000 in
theorem gX11_here_0 {E : EV} {Q : Po} {μ : Mem}  (h : (((μ.1 129 0) ≤ (μ.1 123 7) → Q (some (.int ((-1)))) μ) ∧ (¬ (μ.1 129 0) ≤ (μ.1 123 7) → vp_in (μ.1 123 7) 140 ∧ (Q (some (.int (μ.1 128 ((μ.1 123 7).toNatClampNeg)))) μ)))) : Ex E MX11_here Q 0 [(0, .ref 123)] [] μ := by
  refine x_aload_n 0 rfl rfl (dk zX11_here 0 rfl) ?_
  refine gf11_7 rfl k123 (dk zX11_here 1 rfl) ?_
  refine x_aload_n 0 rfl rfl (dk zX11_here 2 rfl) ?_
  refine gf11_6 (r := 129) rfl k123 r123_6 (dk zX11_here 3 rfl) ?_
  refine x_iconst (v := 0) (by decide) (dk zX11_here 4 rfl) ?_
  refine y_iald (j := 0) k129 l129 (by unfold vp_in; decide) (by decide) (dk zX11_here 5 rfl) ?_
  refine x_icmp_ge (tgt := 25) (by decide) (dk zX11_here 6 rfl) (fun c1 => ?_) (fun c1 => ?_)
  · have hc1t := h.1 c1
    refine x_iconst (v := -1) (by decide) (dk zX11_here 13 rfl) ?_
    exact x_iret (ty := .int) rfl rfl (dk zX11_here 14 rfl) hc1t
  · have hc1f := h.2 c1
    refine x_aload_n 0 rfl rfl (dk zX11_here 7 rfl) ?_
    refine gf11_5 (r := 128) rfl k123 r123_5 (dk zX11_here 8 rfl) ?_
    refine x_aload_n 0 rfl rfl (dk zX11_here 9 rfl) ?_
    refine gf11_7 rfl k123 (dk zX11_here 10 rfl) ?_
    have b2 := hc1f.1
    have hb2 := hc1f.2
    refine y_iald (j := (μ.1 123 7).toNatClampNeg) k128 l128 b2 rfl (dk zX11_here 11 rfl) ?_
    refine x_goto (tgt := 26) (by decide) (dk zX11_here 12 rfl) ?_
    exact x_iret (ty := .int) rfl rfl (dk zX11_here 14 rfl) hb2
set_option maxRecDepth 20000 in
set_option maxHeartbeats 2000000 in
theorem gX11_clears_0 {E : EV} {Q : Po} {μ : Mem}  (h : Q none (mI (mI μ 123 8 0) 123 12 11)) : Ex E MX11_clears Q 0 [(0, .ref 123)] [] μ := by
  refine x_aload_n 0 rfl rfl (dk zX11_clears 0 rfl) ?_
  refine x_iconst (v := 0) (by decide) (dk zX11_clears 1 rfl) ?_
  refine pf11_8 rfl k123 (dk zX11_clears 2 rfl) ?_
  refine x_aload_n 0 rfl rfl (dk zX11_clears 3 rfl) ?_
  refine x_bipush (v := 11) (by decide) (dk zX11_clears 4 rfl) ?_
  refine pf11_12 rfl k123 (dk zX11_clears 5 rfl) ?_
  exact x_vret rfl (dk zX11_clears 6 rfl) h
set_option maxRecDepth 20000 in
set_option maxHeartbeats 2000000 in
theorem gX11_readsRoom_0 {E : EV} {Q : Po} {μ : Mem}  (h : ∀ v1 : Int32, v1 = (μ.1 123 7) + 1 → ∀ v2 : Int32, v2 = (mI μ 123 7 v1).1 123 7 → Ex E MX11_readsRoom Q 17 [(0, .ref 123), (1, .int v2), (2, .int 0)] [] (mI μ 123 7 v1)) : Ex E MX11_readsRoom Q 0 [(0, .ref 123)] [] μ := by
  refine x_aload_n 0 rfl rfl (dk zX11_readsRoom 0 rfl) ?_
  refine x_dupr (dk zX11_readsRoom 1 rfl) ?_
  refine gf11_7 rfl k123 (dk zX11_readsRoom 2 rfl) ?_
  refine x_iconst (v := 1) (by decide) (dk zX11_readsRoom 3 rfl) ?_
  refine x_iadd (dk zX11_readsRoom 4 rfl) ?_
  refine x_topi (fun v1 ev1 => ?_)
  have hv1 := h v1 ev1
  refine pf11_7 rfl k123 (dk zX11_readsRoom 5 rfl) ?_
  refine x_aload_n 0 rfl rfl (dk zX11_readsRoom 6 rfl) ?_
  refine gf11_7 rfl k123 (dk zX11_readsRoom 7 rfl) ?_
  refine x_topi (fun v2 ev2 => ?_)
  have hv2 := hv1 v2 ev2
  refine x_istore_n (k := 1) (l' := [(0, .ref 123), (1, .int v2)]) [1, 0] rfl rfl (by decide) (dk zX11_readsRoom 8 rfl) ?_
  refine x_iconst (v := 0) (by decide) (dk zX11_readsRoom 9 rfl) ?_
  refine x_istore_n (k := 2) (l' := [(0, .ref 123), (1, .int v2), (2, .int 0)]) [1, 2, 0] rfl rfl (by decide) (dk zX11_readsRoom 10 rfl) ?_
  exact hv2
set_option maxRecDepth 20000 in
set_option maxHeartbeats 2000000 in
theorem gX11_readsRoom_17 {E : EV} {Q : Po} {μ : Mem} {x1 : Int32} {x2 : Int32} (h : (((x1 + 2) ≤ (μ.1 123 7) → (((μ.1 123 7) ≤ x1 → Q (some (.int 0)) (mI μ 123 7 x1)) ∧ (¬ (μ.1 123 7) ≤ x1 → Sp E MX11_in [.long (Int32.toInt64 x2), .long 1, .long ((11))] μ (fun v m3 => ∃ r4 : Int32, v = some (.int r4) ∧ ((r4 = 0 → Q (some (.int 0)) (mI m3 123 7 x1)) ∧ (¬ r4 = 0 → Q (some (.int 1)) (mI m3 123 12 x2))))))) ∧ (¬ (x1 + 2) ≤ (μ.1 123 7) → Sp E MX11_here [.ref 123] μ (fun v m6 => ∃ r7 : Int32, v = some (.int r7) ∧ Sp E MX11_in [.long (Int32.toInt64 r7), .long ((48)), .long ((57))] m6 (fun v m8 => ∃ r9 : Int32, v = some (.int r9) ∧ ((r9 = 0 → (((m8.1 123 7) ≤ x1 → Q (some (.int 0)) (mI m8 123 7 x1)) ∧ (¬ (m8.1 123 7) ≤ x1 → Sp E MX11_in [.long (Int32.toInt64 x2), .long 1, .long ((11))] m8 (fun v m12 => ∃ r13 : Int32, v = some (.int r13) ∧ ((r13 = 0 → Q (some (.int 0)) (mI m12 123 7 x1)) ∧ (¬ r13 = 0 → Q (some (.int 1)) (mI m12 123 12 x2))))))) ∧ (¬ r9 = 0 → Sp E MX11_here [.ref 123] m8 (fun v m15 => ∃ r16 : Int32, v = some (.int r16) ∧ ∀ v17 : Int32, v17 = ((10 * x2) + r16) - 48 → ∀ v18 : Int32, v18 = (m15.1 123 7) + 1 → Ex E MX11_readsRoom Q 17 [(0, .ref 123), (1, .int x1), (2, .int v17)] [] (mI m15 123 7 v18))))))))) : Ex E MX11_readsRoom Q 17 [(0, .ref 123), (1, .int x1), (2, .int x2)] [] μ := by
  refine x_aload_n 0 rfl rfl (dk zX11_readsRoom 11 rfl) ?_
  refine gf11_7 rfl k123 (dk zX11_readsRoom 12 rfl) ?_
  refine x_iload_n 1 rfl rfl (dk zX11_readsRoom 13 rfl) ?_
  refine x_iconst (v := 2) (by decide) (dk zX11_readsRoom 14 rfl) ?_
  refine x_iadd (dk zX11_readsRoom 15 rfl) ?_
  refine x_icmp_ge (tgt := 70) (by decide) (dk zX11_readsRoom 16 rfl) (fun c1 => ?_) (fun c1 => ?_)
  · have hc1t := h.1 c1
    refine x_aload_n 0 rfl rfl (dk zX11_readsRoom 40 rfl) ?_
    refine gf11_7 rfl k123 (dk zX11_readsRoom 41 rfl) ?_
    refine x_iload_n 1 rfl rfl (dk zX11_readsRoom 42 rfl) ?_
    refine x_icmp_le (tgt := 97) (by decide) (dk zX11_readsRoom 43 rfl) (fun c2 => ?_) (fun c2 => ?_)
    · have hc2t := hc1t.1 c2
      refine x_aload_n 0 rfl rfl (dk zX11_readsRoom 55 rfl) ?_
      refine x_iload_n 1 rfl rfl (dk zX11_readsRoom 56 rfl) ?_
      refine pf11_7 rfl k123 (dk zX11_readsRoom 57 rfl) ?_
      refine x_iconst (v := 0) (by decide) (dk zX11_readsRoom 58 rfl) ?_
      exact x_iret rfl rfl (dk zX11_readsRoom 59 rfl) hc2t
    · have hc2f := hc1t.2 c2
      refine x_iload_n 2 rfl rfl (dk zX11_readsRoom 44 rfl) ?_
      refine x_i2l (dk zX11_readsRoom 45 rfl) ?_
      refine x_lconst (v := 1) (by decide) (dk zX11_readsRoom 46 rfl) ?_
      refine x_ldc2 (v := 11) rfl wkRX11_142 (dk zX11_readsRoom 47 rfl) ?_
      refine x_callS (as := [.long (Int32.toInt64 x2), .long 1, .long ((11))]) (st := []) rfl okRX11_86 npX11_in ⟨Nat.le_of_ble_eq_true rfl, Nat.le_of_ble_eq_true rfl⟩ (Nat.le_of_ble_eq_true rfl) (dk zX11_readsRoom 48 rfl) ?_
      refine hc2f.mono ?_
      rintro _ m3 ⟨r4, rfl, hm3⟩
      show Ex E MX11_readsRoom Q 87 [(0, .ref 123), (1, .int x1), (2, .int x2)] [.int r4] m3
      refine x_if_eq (tgt := 97) (by decide) (dk zX11_readsRoom 49 rfl) (fun c5 => ?_) (fun c5 => ?_)
      · have hc5t := hm3.1 c5
        refine x_aload_n 0 rfl rfl (dk zX11_readsRoom 55 rfl) ?_
        refine x_iload_n 1 rfl rfl (dk zX11_readsRoom 56 rfl) ?_
        refine pf11_7 rfl k123 (dk zX11_readsRoom 57 rfl) ?_
        refine x_iconst (v := 0) (by decide) (dk zX11_readsRoom 58 rfl) ?_
        exact x_iret rfl rfl (dk zX11_readsRoom 59 rfl) hc5t
      · have hc5f := hm3.2 c5
        refine x_aload_n 0 rfl rfl (dk zX11_readsRoom 50 rfl) ?_
        refine x_iload_n 2 rfl rfl (dk zX11_readsRoom 51 rfl) ?_
        refine pf11_12 rfl k123 (dk zX11_readsRoom 52 rfl) ?_
        refine x_iconst (v := 1) (by decide) (dk zX11_readsRoom 53 rfl) ?_
        exact x_iret rfl rfl (dk zX11_readsRoom 54 rfl) hc5f
  · have hc1f := h.2 c1
    refine x_aload_n 0 rfl rfl (dk zX11_readsRoom 17 rfl) ?_
    refine x_callV (as := []) (o := 123) (ci := 11) (st := []) rfl okRX11_134 npX11_here ⟨Nat.le_of_ble_eq_true rfl, Nat.le_of_ble_eq_true rfl⟩ k123 (by decide) rfl (Nat.le_of_ble_eq_true rfl) (dk zX11_readsRoom 18 rfl) ?_
    refine hc1f.mono ?_
    rintro _ m6 ⟨r7, rfl, hm6⟩
    show Ex E MX11_readsRoom Q 31 [(0, .ref 123), (1, .int x1), (2, .int x2)] [.int r7] m6
    refine x_i2l (dk zX11_readsRoom 19 rfl) ?_
    refine x_ldc2 (v := 48) rfl wkRX11_138 (dk zX11_readsRoom 20 rfl) ?_
    refine x_ldc2 (v := 57) rfl wkRX11_140 (dk zX11_readsRoom 21 rfl) ?_
    refine x_callS (as := [.long (Int32.toInt64 r7), .long ((48)), .long ((57))]) (st := []) rfl okRX11_86 npX11_in ⟨Nat.le_of_ble_eq_true rfl, Nat.le_of_ble_eq_true rfl⟩ (Nat.le_of_ble_eq_true rfl) (dk zX11_readsRoom 22 rfl) ?_
    refine hm6.mono ?_
    rintro _ m8 ⟨r9, rfl, hm8⟩
    show Ex E MX11_readsRoom Q 41 [(0, .ref 123), (1, .int x1), (2, .int x2)] [.int r9] m8
    refine x_if_eq (tgt := 70) (by decide) (dk zX11_readsRoom 23 rfl) (fun c10 => ?_) (fun c10 => ?_)
    · have hc10t := hm8.1 c10
      refine x_aload_n 0 rfl rfl (dk zX11_readsRoom 40 rfl) ?_
      refine gf11_7 rfl k123 (dk zX11_readsRoom 41 rfl) ?_
      refine x_iload_n 1 rfl rfl (dk zX11_readsRoom 42 rfl) ?_
      refine x_icmp_le (tgt := 97) (by decide) (dk zX11_readsRoom 43 rfl) (fun c11 => ?_) (fun c11 => ?_)
      · have hc11t := hc10t.1 c11
        refine x_aload_n 0 rfl rfl (dk zX11_readsRoom 55 rfl) ?_
        refine x_iload_n 1 rfl rfl (dk zX11_readsRoom 56 rfl) ?_
        refine pf11_7 rfl k123 (dk zX11_readsRoom 57 rfl) ?_
        refine x_iconst (v := 0) (by decide) (dk zX11_readsRoom 58 rfl) ?_
        exact x_iret rfl rfl (dk zX11_readsRoom 59 rfl) hc11t
      · have hc11f := hc10t.2 c11
        refine x_iload_n 2 rfl rfl (dk zX11_readsRoom 44 rfl) ?_
        refine x_i2l (dk zX11_readsRoom 45 rfl) ?_
        refine x_lconst (v := 1) (by decide) (dk zX11_readsRoom 46 rfl) ?_
        refine x_ldc2 (v := 11) rfl wkRX11_142 (dk zX11_readsRoom 47 rfl) ?_
        refine x_callS (as := [.long (Int32.toInt64 x2), .long 1, .long ((11))]) (st := []) rfl okRX11_86 npX11_in ⟨Nat.le_of_ble_eq_true rfl, Nat.le_of_ble_eq_true rfl⟩ (Nat.le_of_ble_eq_true rfl) (dk zX11_readsRoom 48 rfl) ?_
        refine hc11f.mono ?_
        rintro _ m12 ⟨r13, rfl, hm12⟩
        show Ex E MX11_readsRoom Q 87 [(0, .ref 123), (1, .int x1), (2, .int x2)] [.int r13] m12
        refine x_if_eq (tgt := 97) (by decide) (dk zX11_readsRoom 49 rfl) (fun c14 => ?_) (fun c14 => ?_)
        · have hc14t := hm12.1 c14
          refine x_aload_n 0 rfl rfl (dk zX11_readsRoom 55 rfl) ?_
          refine x_iload_n 1 rfl rfl (dk zX11_readsRoom 56 rfl) ?_
          refine pf11_7 rfl k123 (dk zX11_readsRoom 57 rfl) ?_
          refine x_iconst (v := 0) (by decide) (dk zX11_readsRoom 58 rfl) ?_
          exact x_iret rfl rfl (dk zX11_readsRoom 59 rfl) hc14t
        · have hc14f := hm12.2 c14
          refine x_aload_n 0 rfl rfl (dk zX11_readsRoom 50 rfl) ?_
          refine x_iload_n 2 rfl rfl (dk zX11_readsRoom 51 rfl) ?_
          refine pf11_12 rfl k123 (dk zX11_readsRoom 52 rfl) ?_
          refine x_iconst (v := 1) (by decide) (dk zX11_readsRoom 53 rfl) ?_
          exact x_iret rfl rfl (dk zX11_readsRoom 54 rfl) hc14f
    · have hc10f := hm8.2 c10
      refine x_bipush (v := 10) (by decide) (dk zX11_readsRoom 24 rfl) ?_
      refine x_iload_n 2 rfl rfl (dk zX11_readsRoom 25 rfl) ?_
      refine x_imul (dk zX11_readsRoom 26 rfl) ?_
      refine x_aload_n 0 rfl rfl (dk zX11_readsRoom 27 rfl) ?_
      refine x_callV (as := []) (o := 123) (ci := 11) (st := [.int (10 * x2)]) rfl okRX11_134 npX11_here ⟨Nat.le_of_ble_eq_true rfl, Nat.le_of_ble_eq_true rfl⟩ k123 (by decide) rfl (Nat.le_of_ble_eq_true rfl) (dk zX11_readsRoom 28 rfl) ?_
      refine hc10f.mono ?_
      rintro _ m15 ⟨r16, rfl, hm15⟩
      show Ex E MX11_readsRoom Q 52 [(0, .ref 123), (1, .int x1), (2, .int x2)] [.int r16, .int (10 * x2)] m15
      refine x_iadd (dk zX11_readsRoom 29 rfl) ?_
      refine x_bipush (v := 48) (by decide) (dk zX11_readsRoom 30 rfl) ?_
      refine x_isub (dk zX11_readsRoom 31 rfl) ?_
      refine x_topi (fun v17 ev17 => ?_)
      have hv17 := hm15 v17 ev17
      refine x_istore_n (k := 2) (l' := [(0, .ref 123), (1, .int x1), (2, .int v17)]) [1, 2, 0] rfl rfl (by decide) (dk zX11_readsRoom 32 rfl) ?_
      refine x_aload_n 0 rfl rfl (dk zX11_readsRoom 33 rfl) ?_
      refine x_dupr (dk zX11_readsRoom 34 rfl) ?_
      refine gf11_7 rfl k123 (dk zX11_readsRoom 35 rfl) ?_
      refine x_iconst (v := 1) (by decide) (dk zX11_readsRoom 36 rfl) ?_
      refine x_iadd (dk zX11_readsRoom 37 rfl) ?_
      refine x_topi (fun v18 ev18 => ?_)
      have hv18 := hv17 v18 ev18
      refine pf11_7 rfl k123 (dk zX11_readsRoom 38 rfl) ?_
      refine x_goto (tgt := 17) (by decide) (dk zX11_readsRoom 39 rfl) ?_
      exact hv18
set_option maxRecDepth 20000 in
set_option maxHeartbeats 2000000 in
theorem gX11_readsPart_0 {E : EV} {Q : Po} {μ : Mem}  (h : Sp E MX11_here [.ref 123] μ (fun v m1 => ∃ r2 : Int32, v = some (.int r2) ∧ ((¬ r2 = 114 → Sp E MX11_here [.ref 123] m1 (fun v m4 => ∃ r5 : Int32, v = some (.int r5) ∧ ∀ v6 : Int32, v6 = r5 - 48 → Sp E MX11_isTown [.int v6] m4 (fun v m7 => ∃ r8 : Int32, v = some (.int r8) ∧ ((r8 = 0 → Q (some (.int 0)) m7) ∧ (¬ r8 = 0 → ((¬ (m7.1 123 8) = 9 → ∀ v11 : Int32, v11 = (m7.1 123 7) + 1 → Sp E MX11_here [.ref 123] (mI m7 123 7 v11) (fun v m12 => ∃ r13 : Int32, v = some (.int r13) ∧ ∀ v14 : Int32, v14 = r13 - 48 → Sp E MX11_isTown [.int v14] m12 (fun v m15 => ∃ r16 : Int32, v = some (.int r16) ∧ ((¬ r16 = 0 → ∀ v18 : Int32, v18 = (m15.1 123 7) + 1 → vp_in ((mI m15 123 7 v18).1 123 8) 9 ∧ (vp_in ((mI (mI m15 123 7 v18) 130 (((mI m15 123 7 v18).1 123 8).toNatClampNeg) v6).1 123 8) 9 ∧ (Sp E MX11_here [.ref 123] (mI (mI (mI m15 123 7 v18) 130 (((mI m15 123 7 v18).1 123 8).toNatClampNeg) v6) 131 (((mI (mI m15 123 7 v18) 130 (((mI m15 123 7 v18).1 123 8).toNatClampNeg) v6).1 123 8).toNatClampNeg) v14) (fun v m21 => ∃ r22 : Int32, v = some (.int r22) ∧ ((r22 = 117 → vp_in ((mI (mI (mI m15 123 7 v18) 130 (((mI m15 123 7 v18).1 123 8).toNatClampNeg) v6) 131 (((mI (mI m15 123 7 v18) 130 (((mI m15 123 7 v18).1 123 8).toNatClampNeg) v6).1 123 8).toNatClampNeg) v14).1 123 8) 9 ∧ (Sp E MX11_here [.ref 123] (mI m21 132 (((mI (mI (mI m15 123 7 v18) 130 (((mI m15 123 7 v18).1 123 8).toNatClampNeg) v6) 131 (((mI (mI m15 123 7 v18) 130 (((mI m15 123 7 v18).1 123 8).toNatClampNeg) v6).1 123 8).toNatClampNeg) v14).1 123 8).toNatClampNeg) 0) (fun v m25 => ∃ r26 : Int32, v = some (.int r26) ∧ ((¬ r26 = 117 → ∀ v28 : Int32, v28 = ((mI m21 132 (((mI (mI (mI m15 123 7 v18) 130 (((mI m15 123 7 v18).1 123 8).toNatClampNeg) v6) 131 (((mI (mI m15 123 7 v18) 130 (((mI m15 123 7 v18).1 123 8).toNatClampNeg) v6).1 123 8).toNatClampNeg) v14).1 123 8).toNatClampNeg) 0).1 123 7) + 0 → ∀ v29 : Int32, v29 = ((mI m25 123 7 v28).1 123 8) + 1 → Q (some (.int 1)) (mI (mI m25 123 7 v28) 123 8 v29)) ∧ (r26 = 117 → ∀ v30 : Int32, v30 = ((mI m21 132 (((mI (mI (mI m15 123 7 v18) 130 (((mI m15 123 7 v18).1 123 8).toNatClampNeg) v6) 131 (((mI (mI m15 123 7 v18) 130 (((mI m15 123 7 v18).1 123 8).toNatClampNeg) v6).1 123 8).toNatClampNeg) v14).1 123 8).toNatClampNeg) 0).1 123 7) + 1 → ∀ v31 : Int32, v31 = ((mI m25 123 7 v30).1 123 8) + 1 → Q (some (.int 1)) (mI (mI m25 123 7 v30) 123 8 v31)))))) ∧ (¬ r22 = 117 → vp_in ((mI (mI (mI m15 123 7 v18) 130 (((mI m15 123 7 v18).1 123 8).toNatClampNeg) v6) 131 (((mI (mI m15 123 7 v18) 130 (((mI m15 123 7 v18).1 123 8).toNatClampNeg) v6).1 123 8).toNatClampNeg) v14).1 123 8) 9 ∧ (Sp E MX11_here [.ref 123] (mI m21 132 (((mI (mI (mI m15 123 7 v18) 130 (((mI m15 123 7 v18).1 123 8).toNatClampNeg) v6) 131 (((mI (mI m15 123 7 v18) 130 (((mI m15 123 7 v18).1 123 8).toNatClampNeg) v6).1 123 8).toNatClampNeg) v14).1 123 8).toNatClampNeg) 1) (fun v m33 => ∃ r34 : Int32, v = some (.int r34) ∧ ((¬ r34 = 117 → ∀ v36 : Int32, v36 = ((mI m21 132 (((mI (mI (mI m15 123 7 v18) 130 (((mI m15 123 7 v18).1 123 8).toNatClampNeg) v6) 131 (((mI (mI m15 123 7 v18) 130 (((mI m15 123 7 v18).1 123 8).toNatClampNeg) v6).1 123 8).toNatClampNeg) v14).1 123 8).toNatClampNeg) 1).1 123 7) + 0 → ∀ v37 : Int32, v37 = ((mI m33 123 7 v36).1 123 8) + 1 → Q (some (.int 1)) (mI (mI m33 123 7 v36) 123 8 v37)) ∧ (r34 = 117 → ∀ v38 : Int32, v38 = ((mI m21 132 (((mI (mI (mI m15 123 7 v18) 130 (((mI m15 123 7 v18).1 123 8).toNatClampNeg) v6) 131 (((mI (mI m15 123 7 v18) 130 (((mI m15 123 7 v18).1 123 8).toNatClampNeg) v6).1 123 8).toNatClampNeg) v14).1 123 8).toNatClampNeg) 1).1 123 7) + 1 → ∀ v39 : Int32, v39 = ((mI m33 123 7 v38).1 123 8) + 1 → Q (some (.int 1)) (mI (mI m33 123 7 v38) 123 8 v39))))))))))) ∧ (r16 = 0 → Q (some (.int 0)) m15))))) ∧ ((m7.1 123 8) = 9 → Q (some (.int 0)) m7))))))) ∧ (r2 = 114 → Sp E MX11_readsRoom [.ref 123] m1 (fun v m40 => ∃ r41 : Int32, v = some (.int r41) ∧ ((r41 = 0 ∨ r41 = 1) ∧ Q (some (.int r41)) m40)))))) : Ex E MX11_readsPart Q 0 [(0, .ref 123)] [] μ := by
  refine x_aload_n 0 rfl rfl (dk zX11_readsPart 0 rfl) ?_
  refine x_callV (as := []) (o := 123) (ci := 11) (st := []) rfl okRX11_134 npX11_here ⟨Nat.le_of_ble_eq_true rfl, Nat.le_of_ble_eq_true rfl⟩ k123 (by decide) rfl (Nat.le_of_ble_eq_true rfl) (dk zX11_readsPart 1 rfl) ?_
  refine h.mono ?_
  rintro _ m1 ⟨r2, rfl, hm1⟩
  show Ex E MX11_readsPart Q 4 [(0, .ref 123)] [.int r2] m1
  refine x_bipush (v := 114) (by decide) (dk zX11_readsPart 2 rfl) ?_
  refine x_icmp_ne (tgt := 14) (by decide) (dk zX11_readsPart 3 rfl) (fun c3 => ?_) (fun c3 => ?_)
  · have hc3t := hm1.1 c3
    refine x_aload_n 0 rfl rfl (dk zX11_readsPart 7 rfl) ?_
    refine x_callV (as := []) (o := 123) (ci := 11) (st := []) rfl okRX11_134 npX11_here ⟨Nat.le_of_ble_eq_true rfl, Nat.le_of_ble_eq_true rfl⟩ k123 (by decide) rfl (Nat.le_of_ble_eq_true rfl) (dk zX11_readsPart 8 rfl) ?_
    refine hc3t.mono ?_
    rintro _ m4 ⟨r5, rfl, hm4⟩
    show Ex E MX11_readsPart Q 18 [(0, .ref 123)] [.int r5] m4
    refine x_bipush (v := 48) (by decide) (dk zX11_readsPart 9 rfl) ?_
    refine x_isub (dk zX11_readsPart 10 rfl) ?_
    refine x_topi (fun v6 ev6 => ?_)
    have hv6 := hm4 v6 ev6
    refine x_istore_n (k := 1) (l' := [(0, .ref 123), (1, .int v6)]) [1, 0] rfl rfl (by decide) (dk zX11_readsPart 11 rfl) ?_
    refine x_iload_n 1 rfl rfl (dk zX11_readsPart 12 rfl) ?_
    refine x_callS (as := [.int v6]) (st := []) rfl okRX11_148 npX11_isTown ⟨Nat.le_of_ble_eq_true rfl, Nat.le_of_ble_eq_true rfl⟩ (Nat.le_of_ble_eq_true rfl) (dk zX11_readsPart 13 rfl) ?_
    refine hv6.mono ?_
    rintro _ m7 ⟨r8, rfl, hm7⟩
    show Ex E MX11_readsPart Q 26 [(0, .ref 123), (1, .int v6)] [.int r8] m7
    refine x_if_eq (tgt := 38) (by decide) (dk zX11_readsPart 14 rfl) (fun c9 => ?_) (fun c9 => ?_)
    · have hc9t := hm7.1 c9
      refine x_iconst (v := 0) (by decide) (dk zX11_readsPart 19 rfl) ?_
      exact x_iret rfl rfl (dk zX11_readsPart 20 rfl) hc9t
    · have hc9f := hm7.2 c9
      refine x_aload_n 0 rfl rfl (dk zX11_readsPart 15 rfl) ?_
      refine gf11_8 rfl k123 (dk zX11_readsPart 16 rfl) ?_
      refine x_bipush (v := 9) (by decide) (dk zX11_readsPart 17 rfl) ?_
      refine x_icmp_ne (tgt := 40) (by decide) (dk zX11_readsPart 18 rfl) (fun c10 => ?_) (fun c10 => ?_)
      · have hc10t := hc9f.1 c10
        refine x_aload_n 0 rfl rfl (dk zX11_readsPart 21 rfl) ?_
        refine x_dupr (dk zX11_readsPart 22 rfl) ?_
        refine gf11_7 rfl k123 (dk zX11_readsPart 23 rfl) ?_
        refine x_iconst (v := 1) (by decide) (dk zX11_readsPart 24 rfl) ?_
        refine x_iadd (dk zX11_readsPart 25 rfl) ?_
        refine x_topi (fun v11 ev11 => ?_)
        have hv11 := hc10t v11 ev11
        refine pf11_7 rfl k123 (dk zX11_readsPart 26 rfl) ?_
        refine x_aload_n 0 rfl rfl (dk zX11_readsPart 27 rfl) ?_
        refine x_callV (as := []) (o := 123) (ci := 11) (st := []) rfl okRX11_134 npX11_here ⟨Nat.le_of_ble_eq_true rfl, Nat.le_of_ble_eq_true rfl⟩ k123 (by decide) rfl (Nat.le_of_ble_eq_true rfl) (dk zX11_readsPart 28 rfl) ?_
        refine hv11.mono ?_
        rintro _ m12 ⟨r13, rfl, hm12⟩
        show Ex E MX11_readsPart Q 54 [(0, .ref 123), (1, .int v6)] [.int r13] m12
        refine x_bipush (v := 48) (by decide) (dk zX11_readsPart 29 rfl) ?_
        refine x_isub (dk zX11_readsPart 30 rfl) ?_
        refine x_topi (fun v14 ev14 => ?_)
        have hv14 := hm12 v14 ev14
        refine x_istore_n (k := 2) (l' := [(0, .ref 123), (1, .int v6), (2, .int v14)]) [1, 2, 0] rfl rfl (by decide) (dk zX11_readsPart 31 rfl) ?_
        refine x_iload_n 2 rfl rfl (dk zX11_readsPart 32 rfl) ?_
        refine x_callS (as := [.int v14]) (st := []) rfl okRX11_148 npX11_isTown ⟨Nat.le_of_ble_eq_true rfl, Nat.le_of_ble_eq_true rfl⟩ (Nat.le_of_ble_eq_true rfl) (dk zX11_readsPart 33 rfl) ?_
        refine hv14.mono ?_
        rintro _ m15 ⟨r16, rfl, hm15⟩
        show Ex E MX11_readsPart Q 62 [(0, .ref 123), (1, .int v6), (2, .int v14)] [.int r16] m15
        refine x_if_ne (tgt := 67) (by decide) (dk zX11_readsPart 34 rfl) (fun c17 => ?_) (fun c17 => ?_)
        · have hc17t := hm15.1 c17
          refine x_aload_n 0 rfl rfl (dk zX11_readsPart 37 rfl) ?_
          refine x_dupr (dk zX11_readsPart 38 rfl) ?_
          refine gf11_7 rfl k123 (dk zX11_readsPart 39 rfl) ?_
          refine x_iconst (v := 1) (by decide) (dk zX11_readsPart 40 rfl) ?_
          refine x_iadd (dk zX11_readsPart 41 rfl) ?_
          refine x_topi (fun v18 ev18 => ?_)
          have hv18 := hc17t v18 ev18
          refine pf11_7 rfl k123 (dk zX11_readsPart 42 rfl) ?_
          refine x_aload_n 0 rfl rfl (dk zX11_readsPart 43 rfl) ?_
          refine gf11_9 (r := 130) rfl k123 r123_9 (dk zX11_readsPart 44 rfl) ?_
          refine x_aload_n 0 rfl rfl (dk zX11_readsPart 45 rfl) ?_
          refine gf11_8 rfl k123 (dk zX11_readsPart 46 rfl) ?_
          refine x_iload_n 1 rfl rfl (dk zX11_readsPart 47 rfl) ?_
          have b19 := hv18.1
          have hb19 := hv18.2
          refine y_iast (j := ((mI m15 123 7 v18).1 123 8).toNatClampNeg) k130 l130 b19 rfl (dk zX11_readsPart 48 rfl) ?_
          refine x_aload_n 0 rfl rfl (dk zX11_readsPart 49 rfl) ?_
          refine gf11_10 (r := 131) rfl k123 r123_10 (dk zX11_readsPart 50 rfl) ?_
          refine x_aload_n 0 rfl rfl (dk zX11_readsPart 51 rfl) ?_
          refine gf11_8 rfl k123 (dk zX11_readsPart 52 rfl) ?_
          refine x_iload_n 2 rfl rfl (dk zX11_readsPart 53 rfl) ?_
          have b20 := hb19.1
          have hb20 := hb19.2
          refine y_iast (j := ((mI (mI m15 123 7 v18) 130 (((mI m15 123 7 v18).1 123 8).toNatClampNeg) v6).1 123 8).toNatClampNeg) k131 l131 b20 rfl (dk zX11_readsPart 54 rfl) ?_
          refine x_aload_n 0 rfl rfl (dk zX11_readsPart 55 rfl) ?_
          refine gf11_11 (r := 132) rfl k123 r123_11 (dk zX11_readsPart 56 rfl) ?_
          refine x_aload_n 0 rfl rfl (dk zX11_readsPart 57 rfl) ?_
          refine gf11_8 rfl k123 (dk zX11_readsPart 58 rfl) ?_
          refine x_aload_n 0 rfl rfl (dk zX11_readsPart 59 rfl) ?_
          refine x_callV (as := []) (o := 123) (ci := 11) (st := [.int ((mI (mI (mI m15 123 7 v18) 130 (((mI m15 123 7 v18).1 123 8).toNatClampNeg) v6) 131 (((mI (mI m15 123 7 v18) 130 (((mI m15 123 7 v18).1 123 8).toNatClampNeg) v6).1 123 8).toNatClampNeg) v14).1 123 8), .ref 132]) rfl okRX11_134 npX11_here ⟨Nat.le_of_ble_eq_true rfl, Nat.le_of_ble_eq_true rfl⟩ k123 (by decide) rfl (Nat.le_of_ble_eq_true rfl) (dk zX11_readsPart 60 rfl) ?_
          refine hb20.mono ?_
          rintro _ m21 ⟨r22, rfl, hm21⟩
          show Ex E MX11_readsPart Q 109 [(0, .ref 123), (1, .int v6), (2, .int v14)] [.int r22, .int ((mI (mI (mI m15 123 7 v18) 130 (((mI m15 123 7 v18).1 123 8).toNatClampNeg) v6) 131 (((mI (mI m15 123 7 v18) 130 (((mI m15 123 7 v18).1 123 8).toNatClampNeg) v6).1 123 8).toNatClampNeg) v14).1 123 8), .ref 132] m21
          refine x_bipush (v := 117) (by decide) (dk zX11_readsPart 61 rfl) ?_
          refine x_icmp_eq (tgt := 118) (by decide) (dk zX11_readsPart 62 rfl) (fun c23 => ?_) (fun c23 => ?_)
          · have hc23t := hm21.1 c23
            refine x_iconst (v := 0) (by decide) (dk zX11_readsPart 65 rfl) ?_
            have b24 := hc23t.1
            have hb24 := hc23t.2
            refine y_zast (j := ((mI (mI (mI m15 123 7 v18) 130 (((mI m15 123 7 v18).1 123 8).toNatClampNeg) v6) 131 (((mI (mI m15 123 7 v18) 130 (((mI m15 123 7 v18).1 123 8).toNatClampNeg) v6).1 123 8).toNatClampNeg) v14).1 123 8).toNatClampNeg) k132 l132 b24 rfl (by decide) (dk zX11_readsPart 66 rfl) ?_
            refine x_aload_n 0 rfl rfl (dk zX11_readsPart 67 rfl) ?_
            refine x_dupr (dk zX11_readsPart 68 rfl) ?_
            refine gf11_7 rfl k123 (dk zX11_readsPart 69 rfl) ?_
            refine x_aload_n 0 rfl rfl (dk zX11_readsPart 70 rfl) ?_
            refine x_callV (as := []) (o := 123) (ci := 11) (st := [.int ((mI m21 132 (((mI (mI (mI m15 123 7 v18) 130 (((mI m15 123 7 v18).1 123 8).toNatClampNeg) v6) 131 (((mI (mI m15 123 7 v18) 130 (((mI m15 123 7 v18).1 123 8).toNatClampNeg) v6).1 123 8).toNatClampNeg) v14).1 123 8).toNatClampNeg) 0).1 123 7), .ref 123]) rfl okRX11_134 npX11_here ⟨Nat.le_of_ble_eq_true rfl, Nat.le_of_ble_eq_true rfl⟩ k123 (by decide) rfl (Nat.le_of_ble_eq_true rfl) (dk zX11_readsPart 71 rfl) ?_
            refine hb24.mono ?_
            rintro _ m25 ⟨r26, rfl, hm25⟩
            show Ex E MX11_readsPart Q 129 [(0, .ref 123), (1, .int v6), (2, .int v14)] [.int r26, .int ((mI m21 132 (((mI (mI (mI m15 123 7 v18) 130 (((mI m15 123 7 v18).1 123 8).toNatClampNeg) v6) 131 (((mI (mI m15 123 7 v18) 130 (((mI m15 123 7 v18).1 123 8).toNatClampNeg) v6).1 123 8).toNatClampNeg) v14).1 123 8).toNatClampNeg) 0).1 123 7), .ref 123] m25
            refine x_bipush (v := 117) (by decide) (dk zX11_readsPart 72 rfl) ?_
            refine x_icmp_ne (tgt := 138) (by decide) (dk zX11_readsPart 73 rfl) (fun c27 => ?_) (fun c27 => ?_)
            · have hc27t := hm25.1 c27
              refine x_iconst (v := 0) (by decide) (dk zX11_readsPart 76 rfl) ?_
              refine x_iadd (dk zX11_readsPart 77 rfl) ?_
              refine x_topi (fun v28 ev28 => ?_)
              have hv28 := hc27t v28 ev28
              refine pf11_7 rfl k123 (dk zX11_readsPart 78 rfl) ?_
              refine x_aload_n 0 rfl rfl (dk zX11_readsPart 79 rfl) ?_
              refine x_dupr (dk zX11_readsPart 80 rfl) ?_
              refine gf11_8 rfl k123 (dk zX11_readsPart 81 rfl) ?_
              refine x_iconst (v := 1) (by decide) (dk zX11_readsPart 82 rfl) ?_
              refine x_iadd (dk zX11_readsPart 83 rfl) ?_
              refine x_topi (fun v29 ev29 => ?_)
              have hv29 := hv28 v29 ev29
              refine pf11_8 rfl k123 (dk zX11_readsPart 84 rfl) ?_
              refine x_iconst (v := 1) (by decide) (dk zX11_readsPart 85 rfl) ?_
              exact x_iret rfl rfl (dk zX11_readsPart 86 rfl) hv29
            · have hc27f := hm25.2 c27
              refine x_iconst (v := 1) (by decide) (dk zX11_readsPart 74 rfl) ?_
              refine x_goto (tgt := 139) (by decide) (dk zX11_readsPart 75 rfl) ?_
              refine x_iadd (dk zX11_readsPart 77 rfl) ?_
              refine x_topi (fun v30 ev30 => ?_)
              have hv30 := hc27f v30 ev30
              refine pf11_7 rfl k123 (dk zX11_readsPart 78 rfl) ?_
              refine x_aload_n 0 rfl rfl (dk zX11_readsPart 79 rfl) ?_
              refine x_dupr (dk zX11_readsPart 80 rfl) ?_
              refine gf11_8 rfl k123 (dk zX11_readsPart 81 rfl) ?_
              refine x_iconst (v := 1) (by decide) (dk zX11_readsPart 82 rfl) ?_
              refine x_iadd (dk zX11_readsPart 83 rfl) ?_
              refine x_topi (fun v31 ev31 => ?_)
              have hv31 := hv30 v31 ev31
              refine pf11_8 rfl k123 (dk zX11_readsPart 84 rfl) ?_
              refine x_iconst (v := 1) (by decide) (dk zX11_readsPart 85 rfl) ?_
              exact x_iret rfl rfl (dk zX11_readsPart 86 rfl) hv31
          · have hc23f := hm21.2 c23
            refine x_iconst (v := 1) (by decide) (dk zX11_readsPart 63 rfl) ?_
            refine x_goto (tgt := 119) (by decide) (dk zX11_readsPart 64 rfl) ?_
            have b32 := hc23f.1
            have hb32 := hc23f.2
            refine y_zast (j := ((mI (mI (mI m15 123 7 v18) 130 (((mI m15 123 7 v18).1 123 8).toNatClampNeg) v6) 131 (((mI (mI m15 123 7 v18) 130 (((mI m15 123 7 v18).1 123 8).toNatClampNeg) v6).1 123 8).toNatClampNeg) v14).1 123 8).toNatClampNeg) k132 l132 b32 rfl (by decide) (dk zX11_readsPart 66 rfl) ?_
            refine x_aload_n 0 rfl rfl (dk zX11_readsPart 67 rfl) ?_
            refine x_dupr (dk zX11_readsPart 68 rfl) ?_
            refine gf11_7 rfl k123 (dk zX11_readsPart 69 rfl) ?_
            refine x_aload_n 0 rfl rfl (dk zX11_readsPart 70 rfl) ?_
            refine x_callV (as := []) (o := 123) (ci := 11) (st := [.int ((mI m21 132 (((mI (mI (mI m15 123 7 v18) 130 (((mI m15 123 7 v18).1 123 8).toNatClampNeg) v6) 131 (((mI (mI m15 123 7 v18) 130 (((mI m15 123 7 v18).1 123 8).toNatClampNeg) v6).1 123 8).toNatClampNeg) v14).1 123 8).toNatClampNeg) 1).1 123 7), .ref 123]) rfl okRX11_134 npX11_here ⟨Nat.le_of_ble_eq_true rfl, Nat.le_of_ble_eq_true rfl⟩ k123 (by decide) rfl (Nat.le_of_ble_eq_true rfl) (dk zX11_readsPart 71 rfl) ?_
            refine hb32.mono ?_
            rintro _ m33 ⟨r34, rfl, hm33⟩
            show Ex E MX11_readsPart Q 129 [(0, .ref 123), (1, .int v6), (2, .int v14)] [.int r34, .int ((mI m21 132 (((mI (mI (mI m15 123 7 v18) 130 (((mI m15 123 7 v18).1 123 8).toNatClampNeg) v6) 131 (((mI (mI m15 123 7 v18) 130 (((mI m15 123 7 v18).1 123 8).toNatClampNeg) v6).1 123 8).toNatClampNeg) v14).1 123 8).toNatClampNeg) 1).1 123 7), .ref 123] m33
            refine x_bipush (v := 117) (by decide) (dk zX11_readsPart 72 rfl) ?_
            refine x_icmp_ne (tgt := 138) (by decide) (dk zX11_readsPart 73 rfl) (fun c35 => ?_) (fun c35 => ?_)
            · have hc35t := hm33.1 c35
              refine x_iconst (v := 0) (by decide) (dk zX11_readsPart 76 rfl) ?_
              refine x_iadd (dk zX11_readsPart 77 rfl) ?_
              refine x_topi (fun v36 ev36 => ?_)
              have hv36 := hc35t v36 ev36
              refine pf11_7 rfl k123 (dk zX11_readsPart 78 rfl) ?_
              refine x_aload_n 0 rfl rfl (dk zX11_readsPart 79 rfl) ?_
              refine x_dupr (dk zX11_readsPart 80 rfl) ?_
              refine gf11_8 rfl k123 (dk zX11_readsPart 81 rfl) ?_
              refine x_iconst (v := 1) (by decide) (dk zX11_readsPart 82 rfl) ?_
              refine x_iadd (dk zX11_readsPart 83 rfl) ?_
              refine x_topi (fun v37 ev37 => ?_)
              have hv37 := hv36 v37 ev37
              refine pf11_8 rfl k123 (dk zX11_readsPart 84 rfl) ?_
              refine x_iconst (v := 1) (by decide) (dk zX11_readsPart 85 rfl) ?_
              exact x_iret rfl rfl (dk zX11_readsPart 86 rfl) hv37
            · have hc35f := hm33.2 c35
              refine x_iconst (v := 1) (by decide) (dk zX11_readsPart 74 rfl) ?_
              refine x_goto (tgt := 139) (by decide) (dk zX11_readsPart 75 rfl) ?_
              refine x_iadd (dk zX11_readsPart 77 rfl) ?_
              refine x_topi (fun v38 ev38 => ?_)
              have hv38 := hc35f v38 ev38
              refine pf11_7 rfl k123 (dk zX11_readsPart 78 rfl) ?_
              refine x_aload_n 0 rfl rfl (dk zX11_readsPart 79 rfl) ?_
              refine x_dupr (dk zX11_readsPart 80 rfl) ?_
              refine gf11_8 rfl k123 (dk zX11_readsPart 81 rfl) ?_
              refine x_iconst (v := 1) (by decide) (dk zX11_readsPart 82 rfl) ?_
              refine x_iadd (dk zX11_readsPart 83 rfl) ?_
              refine x_topi (fun v39 ev39 => ?_)
              have hv39 := hv38 v39 ev39
              refine pf11_8 rfl k123 (dk zX11_readsPart 84 rfl) ?_
              refine x_iconst (v := 1) (by decide) (dk zX11_readsPart 85 rfl) ?_
              exact x_iret rfl rfl (dk zX11_readsPart 86 rfl) hv39
        · have hc17f := hm15.2 c17
          refine x_iconst (v := 0) (by decide) (dk zX11_readsPart 35 rfl) ?_
          exact x_iret rfl rfl (dk zX11_readsPart 36 rfl) hc17f
      · have hc10f := hc9f.2 c10
        refine x_iconst (v := 0) (by decide) (dk zX11_readsPart 19 rfl) ?_
        exact x_iret rfl rfl (dk zX11_readsPart 20 rfl) hc10f
  · have hc3f := hm1.2 c3
    refine x_aload_n 0 rfl rfl (dk zX11_readsPart 4 rfl) ?_
    refine x_callV (as := []) (o := 123) (ci := 11) (st := []) rfl okRX11_144 npX11_readsRoom ⟨Nat.le_of_ble_eq_true rfl, Nat.le_of_ble_eq_true rfl⟩ k123 (by decide) rfl (Nat.le_of_ble_eq_true rfl) (dk zX11_readsPart 5 rfl) ?_
    refine hc3f.mono ?_
    rintro _ m40 ⟨r41, rfl, hm40⟩
    show Ex E MX11_readsPart Q 13 [(0, .ref 123)] [.int r41] m40
    exact x_iret rfl (nar_b hm40.1) (dk zX11_readsPart 6 rfl) hm40.2
set_option maxRecDepth 20000 in
set_option maxHeartbeats 2000000 in
theorem gX11_readsLand_0 {E : EV} {Q : Po} {μ : Mem}  (h : Sp E MX11_clears [.ref 123] (mI μ 123 7 0) (fun v m1 => v = none ∧ (((m1.1 129 0) ≤ 0 → Ex E MX11_readsLand Q 24 [(0, .ref 123), (1, .int 0)] [] m1) ∧ (¬ (m1.1 129 0) ≤ 0 → Ex E MX11_readsLand Q 24 [(0, .ref 123), (1, .int 1)] [] m1)))) : Ex E MX11_readsLand Q 0 [(0, .ref 123)] [] μ := by
  refine x_aload_n 0 rfl rfl (dk zX11_readsLand 0 rfl) ?_
  refine x_iconst (v := 0) (by decide) (dk zX11_readsLand 1 rfl) ?_
  refine pf11_7 rfl k123 (dk zX11_readsLand 2 rfl) ?_
  refine x_aload_n 0 rfl rfl (dk zX11_readsLand 3 rfl) ?_
  refine x_callV (as := []) (o := 123) (ci := 11) (st := []) rfl okRX11_151 npX11_clears ⟨Nat.le_of_ble_eq_true rfl, Nat.le_of_ble_eq_true rfl⟩ k123 (by decide) rfl (Nat.le_of_ble_eq_true rfl) (dk zX11_readsLand 4 rfl) ?_
  refine h.mono ?_
  rintro _ m1 ⟨rfl, hm1⟩
  show Ex E MX11_readsLand Q 9 [(0, .ref 123)] [] m1
  refine x_aload_n 0 rfl rfl (dk zX11_readsLand 5 rfl) ?_
  refine gf11_6 (r := 129) rfl k123 r123_6 (dk zX11_readsLand 6 rfl) ?_
  refine x_iconst (v := 0) (by decide) (dk zX11_readsLand 7 rfl) ?_
  refine y_iald (j := 0) k129 l129 (by unfold vp_in; decide) (by decide) (dk zX11_readsLand 8 rfl) ?_
  refine x_if_le (tgt := 22) (by decide) (dk zX11_readsLand 9 rfl) (fun c2 => ?_) (fun c2 => ?_)
  · have hc2t := hm1.1 c2
    refine x_iconst (v := 0) (by decide) (dk zX11_readsLand 12 rfl) ?_
    refine x_istore_n (k := 1) (l' := [(0, .ref 123), (1, .int 0)]) [1, 0] rfl rfl (by decide) (dk zX11_readsLand 13 rfl) ?_
    exact hc2t
  · have hc2f := hm1.2 c2
    refine x_iconst (v := 1) (by decide) (dk zX11_readsLand 10 rfl) ?_
    refine x_goto (tgt := 23) (by decide) (dk zX11_readsLand 11 rfl) ?_
    refine x_istore_n (k := 1) (l' := [(0, .ref 123), (1, .int 1)]) [1, 0] rfl rfl (by decide) (dk zX11_readsLand 13 rfl) ?_
    exact hc2f
set_option maxRecDepth 20000 in
set_option maxHeartbeats 2000000 in
theorem gX11_readsLand_24 {E : EV} {Q : Po} {μ : Mem} {x1 : Int32} (h : ((x1 = 0 → Q (some (.int ((-1)))) μ) ∧ (¬ x1 = 0 → Sp E MX11_readsPart [.ref 123] μ (fun v m2 => ∃ r3 : Int32, v = some (.int r3) ∧ ((¬ r3 = 0 → (((m2.1 129 0) ≤ (m2.1 123 7) → ∀ v6 : Int32, v6 = (m2.1 123 7) + 0 → Ex E MX11_readsLand Q 24 [(0, .ref 123), (1, .int 0)] [] (mI m2 123 7 v6)) ∧ (¬ (m2.1 129 0) ≤ (m2.1 123 7) → Sp E MX11_here [.ref 123] m2 (fun v m7 => ∃ r8 : Int32, v = some (.int r8) ∧ ((r8 = 59 → ∀ v10 : Int32, v10 = (m7.1 123 7) + 1 → Ex E MX11_readsLand Q 24 [(0, .ref 123), (1, .int 1)] [] (mI m7 123 7 v10)) ∧ (¬ r8 = 59 → Sp E MX11_clears [.ref 123] m7 (fun v m11 => v = none ∧ Q (some (.int (m11.1 123 7))) m11))))))) ∧ (r3 = 0 → Sp E MX11_clears [.ref 123] m2 (fun v m12 => v = none ∧ Q (some (.int (m12.1 123 7))) m12))))))) : Ex E MX11_readsLand Q 24 [(0, .ref 123), (1, .int x1)] [] μ := by
  refine x_iload_n 1 rfl rfl (dk zX11_readsLand 14 rfl) ?_
  refine x_if_eq (tgt := 106) (by decide) (dk zX11_readsLand 15 rfl) (fun c1 => ?_) (fun c1 => ?_)
  · have hc1t := h.1 c1
    refine x_iconst (v := -1) (by decide) (dk zX11_readsLand 57 rfl) ?_
    exact x_iret (ty := .int) rfl rfl (dk zX11_readsLand 58 rfl) hc1t
  · have hc1f := h.2 c1
    refine x_aload_n 0 rfl rfl (dk zX11_readsLand 16 rfl) ?_
    refine x_callV (as := []) (o := 123) (ci := 11) (st := []) rfl okRX11_154 npX11_readsPart ⟨Nat.le_of_ble_eq_true rfl, Nat.le_of_ble_eq_true rfl⟩ k123 (by decide) rfl (Nat.le_of_ble_eq_true rfl) (dk zX11_readsLand 17 rfl) ?_
    refine hc1f.mono ?_
    rintro _ m2 ⟨r3, rfl, hm2⟩
    show Ex E MX11_readsLand Q 32 [(0, .ref 123), (1, .int x1)] [.int r3] m2
    refine x_if_ne (tgt := 44) (by decide) (dk zX11_readsLand 18 rfl) (fun c4 => ?_) (fun c4 => ?_)
    · have hc4t := hm2.1 c4
      refine x_aload_n 0 rfl rfl (dk zX11_readsLand 24 rfl) ?_
      refine gf11_7 rfl k123 (dk zX11_readsLand 25 rfl) ?_
      refine x_aload_n 0 rfl rfl (dk zX11_readsLand 26 rfl) ?_
      refine gf11_6 (r := 129) rfl k123 r123_6 (dk zX11_readsLand 27 rfl) ?_
      refine x_iconst (v := 0) (by decide) (dk zX11_readsLand 28 rfl) ?_
      refine y_iald (j := 0) k129 l129 (by unfold vp_in; decide) (by decide) (dk zX11_readsLand 29 rfl) ?_
      refine x_icmp_ge (tgt := 61) (by decide) (dk zX11_readsLand 30 rfl) (fun c5 => ?_) (fun c5 => ?_)
      · have hc5t := hc4t.1 c5
        refine x_iconst (v := 0) (by decide) (dk zX11_readsLand 33 rfl) ?_
        refine x_istore_n (k := 1) (l' := [(0, .ref 123), (1, .int 0)]) [1, 0] rfl rfl (by decide) (dk zX11_readsLand 34 rfl) ?_
        refine x_iload_n 1 rfl rfl (dk zX11_readsLand 35 rfl) ?_
        refine x_if_eq (tgt := 85) (by decide) (dk zX11_readsLand 36 rfl) (fun _ => ?_) (fun c => absurd c (by decide))
        refine x_aload_n 0 rfl rfl (dk zX11_readsLand 46 rfl) ?_
        refine x_dupr (dk zX11_readsLand 47 rfl) ?_
        refine gf11_7 rfl k123 (dk zX11_readsLand 48 rfl) ?_
        refine x_iload_n 1 rfl rfl (dk zX11_readsLand 49 rfl) ?_
        refine x_if_eq (tgt := 98) (by decide) (dk zX11_readsLand 50 rfl) (fun _ => ?_) (fun c => absurd c (by decide))
        refine x_iconst (v := 0) (by decide) (dk zX11_readsLand 53 rfl) ?_
        refine x_iadd (dk zX11_readsLand 54 rfl) ?_
        refine x_topi (fun v6 ev6 => ?_)
        have hv6 := hc5t v6 ev6
        refine pf11_7 rfl k123 (dk zX11_readsLand 55 rfl) ?_
        refine x_goto (tgt := 24) (by decide) (dk zX11_readsLand 56 rfl) ?_
        exact hv6
      · have hc5f := hc4t.2 c5
        refine x_iconst (v := 1) (by decide) (dk zX11_readsLand 31 rfl) ?_
        refine x_goto (tgt := 62) (by decide) (dk zX11_readsLand 32 rfl) ?_
        refine x_istore_n (k := 1) (l' := [(0, .ref 123), (1, .int 1)]) [1, 0] rfl rfl (by decide) (dk zX11_readsLand 34 rfl) ?_
        refine x_iload_n 1 rfl rfl (dk zX11_readsLand 35 rfl) ?_
        refine x_if_eq (tgt := 85) (by decide) (dk zX11_readsLand 36 rfl) (fun c => absurd c (by decide)) (fun _ => ?_)
        refine x_aload_n 0 rfl rfl (dk zX11_readsLand 37 rfl) ?_
        refine x_callV (as := []) (o := 123) (ci := 11) (st := []) rfl okRX11_134 npX11_here ⟨Nat.le_of_ble_eq_true rfl, Nat.le_of_ble_eq_true rfl⟩ k123 (by decide) rfl (Nat.le_of_ble_eq_true rfl) (dk zX11_readsLand 38 rfl) ?_
        refine hc5f.mono ?_
        rintro _ m7 ⟨r8, rfl, hm7⟩
        show Ex E MX11_readsLand Q 71 [(0, .ref 123), (1, .int 1)] [.int r8] m7
        refine x_bipush (v := 59) (by decide) (dk zX11_readsLand 39 rfl) ?_
        refine x_icmp_eq (tgt := 85) (by decide) (dk zX11_readsLand 40 rfl) (fun c9 => ?_) (fun c9 => ?_)
        · have hc9t := hm7.1 c9
          refine x_aload_n 0 rfl rfl (dk zX11_readsLand 46 rfl) ?_
          refine x_dupr (dk zX11_readsLand 47 rfl) ?_
          refine gf11_7 rfl k123 (dk zX11_readsLand 48 rfl) ?_
          refine x_iload_n 1 rfl rfl (dk zX11_readsLand 49 rfl) ?_
          refine x_if_eq (tgt := 98) (by decide) (dk zX11_readsLand 50 rfl) (fun c => absurd c (by decide)) (fun _ => ?_)
          refine x_iconst (v := 1) (by decide) (dk zX11_readsLand 51 rfl) ?_
          refine x_goto (tgt := 99) (by decide) (dk zX11_readsLand 52 rfl) ?_
          refine x_iadd (dk zX11_readsLand 54 rfl) ?_
          refine x_topi (fun v10 ev10 => ?_)
          have hv10 := hc9t v10 ev10
          refine pf11_7 rfl k123 (dk zX11_readsLand 55 rfl) ?_
          refine x_goto (tgt := 24) (by decide) (dk zX11_readsLand 56 rfl) ?_
          exact hv10
        · have hc9f := hm7.2 c9
          refine x_aload_n 0 rfl rfl (dk zX11_readsLand 41 rfl) ?_
          refine x_callV (as := []) (o := 123) (ci := 11) (st := []) rfl okRX11_151 npX11_clears ⟨Nat.le_of_ble_eq_true rfl, Nat.le_of_ble_eq_true rfl⟩ k123 (by decide) rfl (Nat.le_of_ble_eq_true rfl) (dk zX11_readsLand 42 rfl) ?_
          refine hc9f.mono ?_
          rintro _ m11 ⟨rfl, hm11⟩
          show Ex E MX11_readsLand Q 80 [(0, .ref 123), (1, .int 1)] [] m11
          refine x_aload_n 0 rfl rfl (dk zX11_readsLand 43 rfl) ?_
          refine gf11_7 rfl k123 (dk zX11_readsLand 44 rfl) ?_
          exact x_iret (ty := .int) rfl rfl (dk zX11_readsLand 45 rfl) hm11
    · have hc4f := hm2.2 c4
      refine x_aload_n 0 rfl rfl (dk zX11_readsLand 19 rfl) ?_
      refine x_callV (as := []) (o := 123) (ci := 11) (st := []) rfl okRX11_151 npX11_clears ⟨Nat.le_of_ble_eq_true rfl, Nat.le_of_ble_eq_true rfl⟩ k123 (by decide) rfl (Nat.le_of_ble_eq_true rfl) (dk zX11_readsLand 20 rfl) ?_
      refine hc4f.mono ?_
      rintro _ m12 ⟨rfl, hm12⟩
      show Ex E MX11_readsLand Q 39 [(0, .ref 123), (1, .int x1)] [] m12
      refine x_aload_n 0 rfl rfl (dk zX11_readsLand 21 rfl) ?_
      refine gf11_7 rfl k123 (dk zX11_readsLand 22 rfl) ?_
      exact x_iret (ty := .int) rfl rfl (dk zX11_readsLand 23 rfl) hm12
set_option maxRecDepth 20000 in
set_option maxHeartbeats 2000000 in
theorem gX11_letterOf_0 {E : EV} {Q : Po} {μ : Mem} {x1 : Int32} (h : ∀ v1 : Int32, v1 = x1 - 97 → ∀ v2 : Int32, v2 = x1 - 65 → Sp E MX11_in [.long (Int32.toInt64 v1), .long 0, .long (Int32.toInt64 ((μ.1 123 8) - 1))] μ (fun v m3 => ∃ r4 : Int32, v = some (.int r4) ∧ ((r4 = 0 → Sp E MX11_in [.long (Int32.toInt64 v2), .long 0, .long (Int32.toInt64 ((m3.1 123 8) - 1))] m3 (fun v m6 => ∃ r7 : Int32, v = some (.int r7) ∧ ((r7 = 0 → Q (some (.int ((-1)))) m6) ∧ (¬ r7 = 0 → Q (some (.int ((2 * v2) + 1))) m6)))) ∧ (¬ r4 = 0 → Q (some (.int (2 * v1))) m3)))) : Ex E MX11_letterOf Q 0 [(0, .ref 123), (1, .int x1)] [] μ := by
  refine x_iload_n 1 rfl rfl (dk zX11_letterOf 0 rfl) ?_
  refine x_bipush (v := 97) (by decide) (dk zX11_letterOf 1 rfl) ?_
  refine x_isub (dk zX11_letterOf 2 rfl) ?_
  refine x_topi (fun v1 ev1 => ?_)
  have hv1 := h v1 ev1
  refine x_istore_n (k := 2) (l' := [(0, .ref 123), (1, .int x1), (2, .int v1)]) [1, 2, 0] rfl rfl (by decide) (dk zX11_letterOf 3 rfl) ?_
  refine x_iload_n 1 rfl rfl (dk zX11_letterOf 4 rfl) ?_
  refine x_bipush (v := 65) (by decide) (dk zX11_letterOf 5 rfl) ?_
  refine x_isub (dk zX11_letterOf 6 rfl) ?_
  refine x_topi (fun v2 ev2 => ?_)
  have hv2 := hv1 v2 ev2
  refine x_istore_n (k := 3) (l' := [(0, .ref 123), (1, .int x1), (2, .int v1), (3, .int v2)]) [1, 2, 3, 0] rfl rfl (by decide) (dk zX11_letterOf 7 rfl) ?_
  refine x_iload_n 2 rfl rfl (dk zX11_letterOf 8 rfl) ?_
  refine x_i2l (dk zX11_letterOf 9 rfl) ?_
  refine x_lconst (v := 0) (by decide) (dk zX11_letterOf 10 rfl) ?_
  refine x_aload_n 0 rfl rfl (dk zX11_letterOf 11 rfl) ?_
  refine gf11_8 rfl k123 (dk zX11_letterOf 12 rfl) ?_
  refine x_iconst (v := 1) (by decide) (dk zX11_letterOf 13 rfl) ?_
  refine x_isub (dk zX11_letterOf 14 rfl) ?_
  refine x_i2l (dk zX11_letterOf 15 rfl) ?_
  refine x_callS (as := [.long (Int32.toInt64 v1), .long 0, .long (Int32.toInt64 ((μ.1 123 8) - 1))]) (st := []) rfl okRX11_86 npX11_in ⟨Nat.le_of_ble_eq_true rfl, Nat.le_of_ble_eq_true rfl⟩ (Nat.le_of_ble_eq_true rfl) (dk zX11_letterOf 16 rfl) ?_
  refine hv2.mono ?_
  rintro _ m3 ⟨r4, rfl, hm3⟩
  show Ex E MX11_letterOf Q 23 [(0, .ref 123), (1, .int x1), (2, .int v1), (3, .int v2)] [.int r4] m3
  refine x_if_eq (tgt := 32) (by decide) (dk zX11_letterOf 17 rfl) (fun c5 => ?_) (fun c5 => ?_)
  · have hc5t := hm3.1 c5
    refine x_iload_n 3 rfl rfl (dk zX11_letterOf 22 rfl) ?_
    refine x_i2l (dk zX11_letterOf 23 rfl) ?_
    refine x_lconst (v := 0) (by decide) (dk zX11_letterOf 24 rfl) ?_
    refine x_aload_n 0 rfl rfl (dk zX11_letterOf 25 rfl) ?_
    refine gf11_8 rfl k123 (dk zX11_letterOf 26 rfl) ?_
    refine x_iconst (v := 1) (by decide) (dk zX11_letterOf 27 rfl) ?_
    refine x_isub (dk zX11_letterOf 28 rfl) ?_
    refine x_i2l (dk zX11_letterOf 29 rfl) ?_
    refine x_callS (as := [.long (Int32.toInt64 v2), .long 0, .long (Int32.toInt64 ((m3.1 123 8) - 1))]) (st := []) rfl okRX11_86 npX11_in ⟨Nat.le_of_ble_eq_true rfl, Nat.le_of_ble_eq_true rfl⟩ (Nat.le_of_ble_eq_true rfl) (dk zX11_letterOf 30 rfl) ?_
    refine hc5t.mono ?_
    rintro _ m6 ⟨r7, rfl, hm6⟩
    show Ex E MX11_letterOf Q 45 [(0, .ref 123), (1, .int x1), (2, .int v1), (3, .int v2)] [.int r7] m6
    refine x_if_eq (tgt := 56) (by decide) (dk zX11_letterOf 31 rfl) (fun c8 => ?_) (fun c8 => ?_)
    · have hc8t := hm6.1 c8
      refine x_iconst (v := -1) (by decide) (dk zX11_letterOf 38 rfl) ?_
      exact x_iret (ty := .int) rfl rfl (dk zX11_letterOf 39 rfl) hc8t
    · have hc8f := hm6.2 c8
      refine x_iconst (v := 2) (by decide) (dk zX11_letterOf 32 rfl) ?_
      refine x_iload_n 3 rfl rfl (dk zX11_letterOf 33 rfl) ?_
      refine x_imul (dk zX11_letterOf 34 rfl) ?_
      refine x_iconst (v := 1) (by decide) (dk zX11_letterOf 35 rfl) ?_
      refine x_iadd (dk zX11_letterOf 36 rfl) ?_
      refine x_goto (tgt := 57) (by decide) (dk zX11_letterOf 37 rfl) ?_
      exact x_iret (ty := .int) rfl rfl (dk zX11_letterOf 39 rfl) hc8f
  · have hc5f := hm3.2 c5
    refine x_iconst (v := 2) (by decide) (dk zX11_letterOf 18 rfl) ?_
    refine x_iload_n 2 rfl rfl (dk zX11_letterOf 19 rfl) ?_
    refine x_imul (dk zX11_letterOf 20 rfl) ?_
    refine x_goto (tgt := 57) (by decide) (dk zX11_letterOf 21 rfl) ?_
    exact x_iret (ty := .int) rfl rfl (dk zX11_letterOf 39 rfl) hc5f
set_option maxRecDepth 20000 in
set_option maxHeartbeats 2000000 in
theorem gX11_byteOf_0 {E : EV} {Q : Po} {μ : Mem} {x0 : Int32} (h : ((¬ (x0 - x0 / 2 * 2) = 0 → Q (some (.int (65 + (x0 / 2)))) μ) ∧ ((x0 - x0 / 2 * 2) = 0 → Q (some (.int (97 + (x0 / 2)))) μ))) : Ex E MX11_byteOf Q 0 [(0, .int x0)] [] μ := by
  refine x_iload_n 0 rfl rfl (dk zX11_byteOf 0 rfl) ?_
  refine x_iconst (v := 2) (by decide) (dk zX11_byteOf 1 rfl) ?_
  refine x_irem (by decide) (dk zX11_byteOf 2 rfl) ?_
  refine x_if_ne (tgt := 15) (by decide) (dk zX11_byteOf 3 rfl) (fun c1 => ?_) (fun c1 => ?_)
  · have hc1t := h.1 c1
    refine x_bipush (v := 65) (by decide) (dk zX11_byteOf 10 rfl) ?_
    refine x_iload_n 0 rfl rfl (dk zX11_byteOf 11 rfl) ?_
    refine x_iconst (v := 2) (by decide) (dk zX11_byteOf 12 rfl) ?_
    refine x_idiv (by decide) (dk zX11_byteOf 13 rfl) ?_
    refine x_iadd (dk zX11_byteOf 14 rfl) ?_
    exact x_iret (ty := .int) rfl rfl (dk zX11_byteOf 15 rfl) hc1t
  · have hc1f := h.2 c1
    refine x_bipush (v := 97) (by decide) (dk zX11_byteOf 4 rfl) ?_
    refine x_iload_n 0 rfl rfl (dk zX11_byteOf 5 rfl) ?_
    refine x_iconst (v := 2) (by decide) (dk zX11_byteOf 6 rfl) ?_
    refine x_idiv (by decide) (dk zX11_byteOf 7 rfl) ?_
    refine x_iadd (dk zX11_byteOf 8 rfl) ?_
    refine x_goto (tgt := 21) (by decide) (dk zX11_byteOf 9 rfl) ?_
    exact x_iret (ty := .int) rfl rfl (dk zX11_byteOf 15 rfl) hc1f
set_option maxRecDepth 20000 in
set_option maxHeartbeats 2000000 in
theorem gX11_faultOf_0 {E : EV} {Q : Po} {μ : Mem} {x1 : Int32} (h : Sp E MX11_readsLand [.ref 123] μ (fun v m1 => ∃ r2 : Int32, v = some (.int r2) ∧ ((¬ x1 = 0 → Ex E MX11_faultOf Q 13 [(0, .ref 123), (1, .int x1), (2, .int r2), (3, .int 0)] [] m1) ∧ (x1 = 0 → Q (some (.int r2)) m1)))) : Ex E MX11_faultOf Q 0 [(0, .ref 123), (1, .int x1)] [] μ := by
  refine x_aload_n 0 rfl rfl (dk zX11_faultOf 0 rfl) ?_
  refine x_callV (as := []) (o := 123) (ci := 11) (st := []) rfl okRX11_157 npX11_readsLand ⟨Nat.le_of_ble_eq_true rfl, Nat.le_of_ble_eq_true rfl⟩ k123 (by decide) rfl (Nat.le_of_ble_eq_true rfl) (dk zX11_faultOf 1 rfl) ?_
  refine h.mono ?_
  rintro _ m1 ⟨r2, rfl, hm1⟩
  show Ex E MX11_faultOf Q 4 [(0, .ref 123), (1, .int x1)] [.int r2] m1
  refine x_istore_n (k := 2) (l' := [(0, .ref 123), (1, .int x1), (2, .int r2)]) [1, 2, 0] rfl rfl (by decide) (dk zX11_faultOf 2 rfl) ?_
  refine x_iload_n 1 rfl rfl (dk zX11_faultOf 3 rfl) ?_
  refine x_if_ne (tgt := 11) (by decide) (dk zX11_faultOf 4 rfl) (fun c3 => ?_) (fun c3 => ?_)
  · have hc3t := hm1.1 c3
    refine x_iconst (v := 0) (by decide) (dk zX11_faultOf 7 rfl) ?_
    refine x_istore_n (k := 3) (l' := [(0, .ref 123), (1, .int x1), (2, .int r2), (3, .int 0)]) [1, 2, 3, 0] rfl rfl (by decide) (dk zX11_faultOf 8 rfl) ?_
    exact hc3t
  · have hc3f := hm1.2 c3
    refine x_iload_n 2 rfl rfl (dk zX11_faultOf 5 rfl) ?_
    exact x_iret (ty := .int) rfl rfl (dk zX11_faultOf 6 rfl) hc3f
set_option maxRecDepth 20000 in
set_option maxHeartbeats 2000000 in
theorem gX11_faultOf_13 {E : EV} {Q : Po} {μ : Mem} {x1 : Int32} {x2 : Int32} {x3 : Int32} (h : vp_in x1 4 ∧ ((((μ.1 129 x1.toNatClampNeg) ≤ x3 → Q (some (.int ((-1)))) μ) ∧ (¬ (μ.1 129 x1.toNatClampNeg) ≤ x3 → Sp E MX11_from [.int x1] μ (fun v m3 => ∃ r4 : Int32, v = some (.int r4) ∧ vp_in (r4 + x3) 140 ∧ (Sp E MX11_letterOf [.ref 123, .int (m3.1 128 ((r4 + x3).toNatClampNeg))] m3 (fun v m6 => ∃ r7 : Int32, v = some (.int r7) ∧ ((¬ r7 = ((-1)) → ∀ v9 : Int32, v9 = x3 + 1 → Ex E MX11_faultOf Q 13 [(0, .ref 123), (1, .int x1), (2, .int x2), (3, .int v9)] [] m6) ∧ (r7 = ((-1)) → Q (some (.int x3)) m6))))))))) : Ex E MX11_faultOf Q 13 [(0, .ref 123), (1, .int x1), (2, .int x2), (3, .int x3)] [] μ := by
  refine x_iload_n 3 rfl rfl (dk zX11_faultOf 9 rfl) ?_
  refine x_aload_n 0 rfl rfl (dk zX11_faultOf 10 rfl) ?_
  refine gf11_6 (r := 129) rfl k123 r123_6 (dk zX11_faultOf 11 rfl) ?_
  refine x_iload_n 1 rfl rfl (dk zX11_faultOf 12 rfl) ?_
  have b1 := h.1
  have hb1 := h.2
  refine y_iald (j := x1.toNatClampNeg) k129 l129 b1 rfl (dk zX11_faultOf 13 rfl) ?_
  refine x_icmp_ge (tgt := 50) (by decide) (dk zX11_faultOf 14 rfl) (fun c2 => ?_) (fun c2 => ?_)
  · have hc2t := hb1.1 c2
    refine x_iconst (v := -1) (by decide) (dk zX11_faultOf 30 rfl) ?_
    exact x_iret (ty := .int) rfl rfl (dk zX11_faultOf 31 rfl) hc2t
  · have hc2f := hb1.2 c2
    refine x_aload_n 0 rfl rfl (dk zX11_faultOf 15 rfl) ?_
    refine x_aload_n 0 rfl rfl (dk zX11_faultOf 16 rfl) ?_
    refine gf11_5 (r := 128) rfl k123 r123_5 (dk zX11_faultOf 17 rfl) ?_
    refine x_iload_n 1 rfl rfl (dk zX11_faultOf 18 rfl) ?_
    refine x_callS (as := [.int x1]) (st := [.ref 128, .ref 123]) rfl okRX11_122 npX11_from ⟨Nat.le_of_ble_eq_true rfl, Nat.le_of_ble_eq_true rfl⟩ (Nat.le_of_ble_eq_true rfl) (dk zX11_faultOf 19 rfl) ?_
    refine hc2f.mono ?_
    rintro _ m3 ⟨r4, rfl, hm3⟩
    show Ex E MX11_faultOf Q 32 [(0, .ref 123), (1, .int x1), (2, .int x2), (3, .int x3)] [.int r4, .ref 128, .ref 123] m3
    refine x_iload_n 3 rfl rfl (dk zX11_faultOf 20 rfl) ?_
    refine x_iadd (dk zX11_faultOf 21 rfl) ?_
    have b5 := hm3.1
    have hb5 := hm3.2
    refine y_iald (j := (r4 + x3).toNatClampNeg) k128 l128 b5 rfl (dk zX11_faultOf 22 rfl) ?_
    refine x_callV (as := [.int (m3.1 128 ((r4 + x3).toNatClampNeg))]) (o := 123) (ci := 11) (st := []) rfl okRX11_160 npX11_letterOf ⟨Nat.le_of_ble_eq_true rfl, Nat.le_of_ble_eq_true rfl⟩ k123 (by decide) rfl (Nat.le_of_ble_eq_true rfl) (dk zX11_faultOf 23 rfl) ?_
    refine hb5.mono ?_
    rintro _ m6 ⟨r7, rfl, hm6⟩
    show Ex E MX11_faultOf Q 38 [(0, .ref 123), (1, .int x1), (2, .int x2), (3, .int x3)] [.int r7] m6
    refine x_iconst (v := -1) (by decide) (dk zX11_faultOf 24 rfl) ?_
    refine x_icmp_ne (tgt := 44) (by decide) (dk zX11_faultOf 25 rfl) (fun c8 => ?_) (fun c8 => ?_)
    · have hc8t := hm6.1 c8
      obtain ⟨v9, ev9⟩ : ∃ y : Int32, y = x3 + 1 := ⟨_, rfl⟩
      have hv9 := hc8t v9 ev9
      refine x_iinc (v := v9) (l' := [(0, .ref 123), (1, .int x1), (2, .int x2), (3, .int v9)]) 3 rfl (by rw [ev9]; rfl) [1, 2, 3, 0] rfl (by decide) (dk zX11_faultOf 28 rfl) ?_
      refine x_goto (tgt := 13) (by decide) (dk zX11_faultOf 29 rfl) ?_
      exact hv9
    · have hc8f := hm6.2 c8
      refine x_iload_n 3 rfl rfl (dk zX11_faultOf 26 rfl) ?_
      exact x_iret (ty := .int) rfl rfl (dk zX11_faultOf 27 rfl) hc8f
set_option maxRecDepth 20000 in
set_option maxHeartbeats 2000000 in
theorem gX11_fault_0 {E : EV} {Q : Po} {μ : Mem} {x1 : Int32} (h : Sp E MX11_isText [.int x1] μ (fun v m1 => ∃ r2 : Int32, v = some (.int r2) ∧ ((r2 = 0 → Q (some (.int ((-2)))) m1) ∧ (¬ r2 = 0 → Sp E MX11_faultOf [.ref 123, .int x1] m1 (fun v m4 => ∃ r5 : Int32, v = some (.int r5) ∧ Q (some (.int r5)) m4))))) : Ex E MX11_fault Q 0 [(0, .ref 123), (1, .int x1)] [] μ := by
  refine x_iload_n 1 rfl rfl (dk zX11_fault 0 rfl) ?_
  refine x_callS (as := [.int x1]) (st := []) rfl okRX11_117 npX11_isText ⟨Nat.le_of_ble_eq_true rfl, Nat.le_of_ble_eq_true rfl⟩ (Nat.le_of_ble_eq_true rfl) (dk zX11_fault 1 rfl) ?_
  refine h.mono ?_
  rintro _ m1 ⟨r2, rfl, hm1⟩
  show Ex E MX11_fault Q 4 [(0, .ref 123), (1, .int x1)] [.int r2] m1
  refine x_if_eq (tgt := 15) (by decide) (dk zX11_fault 2 rfl) (fun c3 => ?_) (fun c3 => ?_)
  · have hc3t := hm1.1 c3
    refine x_bipush (v := -2) (by decide) (dk zX11_fault 7 rfl) ?_
    exact x_iret (ty := .int) rfl rfl (dk zX11_fault 8 rfl) hc3t
  · have hc3f := hm1.2 c3
    refine x_aload_n 0 rfl rfl (dk zX11_fault 3 rfl) ?_
    refine x_iload_n 1 rfl rfl (dk zX11_fault 4 rfl) ?_
    refine x_callV (as := [.int x1]) (o := 123) (ci := 11) (st := []) rfl okRX11_163 npX11_faultOf ⟨Nat.le_of_ble_eq_true rfl, Nat.le_of_ble_eq_true rfl⟩ k123 (by decide) rfl (Nat.le_of_ble_eq_true rfl) (dk zX11_fault 5 rfl) ?_
    refine hc3f.mono ?_
    rintro _ m4 ⟨r5, rfl, hm4⟩
    show Ex E MX11_fault Q 12 [(0, .ref 123), (1, .int x1)] [.int r5] m4
    refine x_goto (tgt := 17) (by decide) (dk zX11_fault 6 rfl) ?_
    exact x_iret (ty := .int) rfl rfl (dk zX11_fault 8 rfl) hm4
set_option maxRecDepth 20000 in
set_option maxHeartbeats 2000000 in
theorem gX11_start_0 {E : EV} {Q : Po} {μ : Mem} {x1 : Int32} (h : ((¬ (x1 - x1 / 2 * 2) = 0 → vp_in (x1 / 2) 9 ∧ (Q (some (.int (μ.1 131 ((x1 / 2).toNatClampNeg)))) μ)) ∧ ((x1 - x1 / 2 * 2) = 0 → vp_in (x1 / 2) 9 ∧ (Q (some (.int (μ.1 130 ((x1 / 2).toNatClampNeg)))) μ)))) : Ex E MX11_start Q 0 [(0, .ref 123), (1, .int x1)] [] μ := by
  refine x_iload_n 1 rfl rfl (dk zX11_start 0 rfl) ?_
  refine x_iconst (v := 2) (by decide) (dk zX11_start 1 rfl) ?_
  refine x_irem (by decide) (dk zX11_start 2 rfl) ?_
  refine x_if_ne (tgt := 17) (by decide) (dk zX11_start 3 rfl) (fun c1 => ?_) (fun c1 => ?_)
  · have hc1t := h.1 c1
    refine x_aload_n 0 rfl rfl (dk zX11_start 11 rfl) ?_
    refine gf11_10 (r := 131) rfl k123 r123_10 (dk zX11_start 12 rfl) ?_
    refine x_iload_n 1 rfl rfl (dk zX11_start 13 rfl) ?_
    refine x_iconst (v := 2) (by decide) (dk zX11_start 14 rfl) ?_
    refine x_idiv (by decide) (dk zX11_start 15 rfl) ?_
    have b2 := hc1t.1
    have hb2 := hc1t.2
    refine y_iald (j := (x1 / 2).toNatClampNeg) k131 l131 b2 rfl (dk zX11_start 16 rfl) ?_
    exact x_iret (ty := .int) rfl rfl (dk zX11_start 17 rfl) hb2
  · have hc1f := h.2 c1
    refine x_aload_n 0 rfl rfl (dk zX11_start 4 rfl) ?_
    refine gf11_9 (r := 130) rfl k123 r123_9 (dk zX11_start 5 rfl) ?_
    refine x_iload_n 1 rfl rfl (dk zX11_start 6 rfl) ?_
    refine x_iconst (v := 2) (by decide) (dk zX11_start 7 rfl) ?_
    refine x_idiv (by decide) (dk zX11_start 8 rfl) ?_
    have b3 := hc1f.1
    have hb3 := hc1f.2
    refine y_iald (j := (x1 / 2).toNatClampNeg) k130 l130 b3 rfl (dk zX11_start 9 rfl) ?_
    refine x_goto (tgt := 25) (by decide) (dk zX11_start 10 rfl) ?_
    exact x_iret (ty := .int) rfl rfl (dk zX11_start 17 rfl) hb3
set_option maxRecDepth 20000 in
set_option maxHeartbeats 2000000 in
theorem gX11_end_0 {E : EV} {Q : Po} {μ : Mem} {x1 : Int32} (h : ((¬ (x1 - x1 / 2 * 2) = 0 → Sp E MX11_start [.ref 123, .int (x1 - 1)] μ (fun v m2 => ∃ r3 : Int32, v = some (.int r3) ∧ Q (some (.int r3)) m2)) ∧ ((x1 - x1 / 2 * 2) = 0 → Sp E MX11_start [.ref 123, .int (x1 + 1)] μ (fun v m4 => ∃ r5 : Int32, v = some (.int r5) ∧ Q (some (.int r5)) m4)))) : Ex E MX11_end Q 0 [(0, .ref 123), (1, .int x1)] [] μ := by
  refine x_aload_n 0 rfl rfl (dk zX11_end 0 rfl) ?_
  refine x_iload_n 1 rfl rfl (dk zX11_end 1 rfl) ?_
  refine x_iconst (v := 2) (by decide) (dk zX11_end 2 rfl) ?_
  refine x_irem (by decide) (dk zX11_end 3 rfl) ?_
  refine x_if_ne (tgt := 13) (by decide) (dk zX11_end 4 rfl) (fun c1 => ?_) (fun c1 => ?_)
  · have hc1t := h.1 c1
    refine x_iload_n 1 rfl rfl (dk zX11_end 9 rfl) ?_
    refine x_iconst (v := 1) (by decide) (dk zX11_end 10 rfl) ?_
    refine x_isub (dk zX11_end 11 rfl) ?_
    refine x_callV (as := [.int (x1 - 1)]) (o := 123) (ci := 11) (st := []) rfl okRX11_166 npX11_start ⟨Nat.le_of_ble_eq_true rfl, Nat.le_of_ble_eq_true rfl⟩ k123 (by decide) rfl (Nat.le_of_ble_eq_true rfl) (dk zX11_end 12 rfl) ?_
    refine hc1t.mono ?_
    rintro _ m2 ⟨r3, rfl, hm2⟩
    show Ex E MX11_end Q 19 [(0, .ref 123), (1, .int x1)] [.int r3] m2
    exact x_iret (ty := .int) rfl rfl (dk zX11_end 13 rfl) hm2
  · have hc1f := h.2 c1
    refine x_iload_n 1 rfl rfl (dk zX11_end 5 rfl) ?_
    refine x_iconst (v := 1) (by decide) (dk zX11_end 6 rfl) ?_
    refine x_iadd (dk zX11_end 7 rfl) ?_
    refine x_goto (tgt := 16) (by decide) (dk zX11_end 8 rfl) ?_
    refine x_callV (as := [.int (x1 + 1)]) (o := 123) (ci := 11) (st := []) rfl okRX11_166 npX11_start ⟨Nat.le_of_ble_eq_true rfl, Nat.le_of_ble_eq_true rfl⟩ k123 (by decide) rfl (Nat.le_of_ble_eq_true rfl) (dk zX11_end 12 rfl) ?_
    refine hc1f.mono ?_
    rintro _ m4 ⟨r5, rfl, hm4⟩
    show Ex E MX11_end Q 19 [(0, .ref 123), (1, .int x1)] [.int r5] m4
    exact x_iret (ty := .int) rfl rfl (dk zX11_end 13 rfl) hm4
set_option maxRecDepth 20000 in
set_option maxHeartbeats 2000000 in
theorem gX11_back_0 {E : EV} {Q : Po} {μ : Mem} {x0 : Int32} (h : ((¬ (x0 - x0 / 2 * 2) = 0 → Q (some (.int (x0 - 1))) μ) ∧ ((x0 - x0 / 2 * 2) = 0 → Q (some (.int (x0 + 1))) μ))) : Ex E MX11_back Q 0 [(0, .int x0)] [] μ := by
  refine x_iload_n 0 rfl rfl (dk zX11_back 0 rfl) ?_
  refine x_iconst (v := 2) (by decide) (dk zX11_back 1 rfl) ?_
  refine x_irem (by decide) (dk zX11_back 2 rfl) ?_
  refine x_if_ne (tgt := 12) (by decide) (dk zX11_back 3 rfl) (fun c1 => ?_) (fun c1 => ?_)
  · have hc1t := h.1 c1
    refine x_iload_n 0 rfl rfl (dk zX11_back 8 rfl) ?_
    refine x_iconst (v := 1) (by decide) (dk zX11_back 9 rfl) ?_
    refine x_isub (dk zX11_back 10 rfl) ?_
    exact x_iret (ty := .int) rfl rfl (dk zX11_back 11 rfl) hc1t
  · have hc1f := h.2 c1
    refine x_iload_n 0 rfl rfl (dk zX11_back 4 rfl) ?_
    refine x_iconst (v := 1) (by decide) (dk zX11_back 5 rfl) ?_
    refine x_iadd (dk zX11_back 6 rfl) ?_
    refine x_goto (tgt := 15) (by decide) (dk zX11_back 7 rfl) ?_
    exact x_iret (ty := .int) rfl rfl (dk zX11_back 11 rfl) hc1f
set_option maxRecDepth 20000 in
set_option maxHeartbeats 2000000 in
theorem gX11_isShut_0 {E : EV} {Q : Po} {μ : Mem} {x1 : Int32} (h : ((¬ (((μ.1 123 13) >>> ((x1 : Int32) &&& 31)) &&& 1) = 1 → Q (some (.int 0)) μ) ∧ ((((μ.1 123 13) >>> ((x1 : Int32) &&& 31)) &&& 1) = 1 → Q (some (.int 1)) μ))) : Ex E MX11_isShut Q 0 [(0, .ref 123), (1, .int x1)] [] μ := by
  refine x_aload_n 0 rfl rfl (dk zX11_isShut 0 rfl) ?_
  refine gf11_13 rfl k123 (dk zX11_isShut 1 rfl) ?_
  refine x_iload_n 1 rfl rfl (dk zX11_isShut 2 rfl) ?_
  refine x_ishr (dk zX11_isShut 3 rfl) ?_
  refine x_iconst (v := 1) (by decide) (dk zX11_isShut 4 rfl) ?_
  refine x_iand (dk zX11_isShut 5 rfl) ?_
  refine x_iconst (v := 1) (by decide) (dk zX11_isShut 6 rfl) ?_
  refine x_icmp_ne (tgt := 16) (by decide) (dk zX11_isShut 7 rfl) (fun c1 => ?_) (fun c1 => ?_)
  · have hc1t := h.1 c1
    refine x_iconst (v := 0) (by decide) (dk zX11_isShut 10 rfl) ?_
    exact x_iret rfl rfl (dk zX11_isShut 11 rfl) hc1t
  · have hc1f := h.2 c1
    refine x_iconst (v := 1) (by decide) (dk zX11_isShut 8 rfl) ?_
    refine x_goto (tgt := 17) (by decide) (dk zX11_isShut 9 rfl) ?_
    exact x_iret rfl rfl (dk zX11_isShut 11 rfl) hc1f
set_option maxRecDepth 20000 in
set_option maxHeartbeats 2000000 in
theorem gX11_gate_0 {E : EV} {Q : Po} {μ : Mem} {x1 : Int32} {x2 : Int32} (h : Sp E MX11_readsLand [.ref 123] μ (fun v m1 => ∃ r2 : Int32, v = some (.int r2) ∧ Sp E MX11_in [.long (Int32.toInt64 x1), .long 0, .long (Int32.toInt64 ((m1.1 123 8) - 1))] m1 (fun v m3 => ∃ r4 : Int32, v = some (.int r4) ∧ ((r4 = 0 → Q (some (.int ((-2)))) m3) ∧ (¬ r4 = 0 → Sp E MX11_in [.long (Int32.toInt64 x2), .long 0, .long ((3))] m3 (fun v m6 => ∃ r7 : Int32, v = some (.int r7) ∧ ((¬ r7 = 0 → ((¬ x2 = 0 → ((¬ x2 = 1 → ((¬ x2 = 2 → Sp E MX11_isShut [.ref 123, .int x1] m6 (fun v m12 => ∃ r13 : Int32, v = some (.int r13) ∧ ((r13 = 0 → Q (some (.int 0)) m12) ∧ (¬ r13 = 0 → Q (some (.int 1)) m12)))) ∧ (x2 = 2 → vp_in x1 9 ∧ ((((m6.1 132 x1.toNatClampNeg) = 0 → Q (some (.int 0)) m6) ∧ (¬ (m6.1 132 x1.toNatClampNeg) = 0 → Q (some (.int 1)) m6)))))) ∧ (x2 = 1 → vp_in x1 9 ∧ (Q (some (.int (m6.1 131 x1.toNatClampNeg))) m6)))) ∧ (x2 = 0 → vp_in x1 9 ∧ (Q (some (.int (m6.1 130 x1.toNatClampNeg))) m6)))) ∧ (r7 = 0 → Q (some (.int ((-2)))) m6)))))))) : Ex E MX11_gate Q 0 [(0, .ref 123), (1, .int x1), (2, .int x2)] [] μ := by
  refine x_aload_n 0 rfl rfl (dk zX11_gate 0 rfl) ?_
  refine x_callV (as := []) (o := 123) (ci := 11) (st := []) rfl okRX11_157 npX11_readsLand ⟨Nat.le_of_ble_eq_true rfl, Nat.le_of_ble_eq_true rfl⟩ k123 (by decide) rfl (Nat.le_of_ble_eq_true rfl) (dk zX11_gate 1 rfl) ?_
  refine h.mono ?_
  rintro _ m1 ⟨r2, rfl, hm1⟩
  show Ex E MX11_gate Q 4 [(0, .ref 123), (1, .int x1), (2, .int x2)] [.int r2] m1
  refine x_popi (dk zX11_gate 2 rfl) ?_
  refine x_iload_n 1 rfl rfl (dk zX11_gate 3 rfl) ?_
  refine x_i2l (dk zX11_gate 4 rfl) ?_
  refine x_lconst (v := 0) (by decide) (dk zX11_gate 5 rfl) ?_
  refine x_aload_n 0 rfl rfl (dk zX11_gate 6 rfl) ?_
  refine gf11_8 rfl k123 (dk zX11_gate 7 rfl) ?_
  refine x_iconst (v := 1) (by decide) (dk zX11_gate 8 rfl) ?_
  refine x_isub (dk zX11_gate 9 rfl) ?_
  refine x_i2l (dk zX11_gate 10 rfl) ?_
  refine x_callS (as := [.long (Int32.toInt64 x1), .long 0, .long (Int32.toInt64 ((m1.1 123 8) - 1))]) (st := []) rfl okRX11_86 npX11_in ⟨Nat.le_of_ble_eq_true rfl, Nat.le_of_ble_eq_true rfl⟩ (Nat.le_of_ble_eq_true rfl) (dk zX11_gate 11 rfl) ?_
  refine hm1.mono ?_
  rintro _ m3 ⟨r4, rfl, hm3⟩
  show Ex E MX11_gate Q 18 [(0, .ref 123), (1, .int x1), (2, .int x2)] [.int r4] m3
  refine x_if_eq (tgt := 33) (by decide) (dk zX11_gate 12 rfl) (fun c5 => ?_) (fun c5 => ?_)
  · have hc5t := hm3.1 c5
    refine x_bipush (v := -2) (by decide) (dk zX11_gate 19 rfl) ?_
    exact x_iret (ty := .int) rfl rfl (dk zX11_gate 20 rfl) hc5t
  · have hc5f := hm3.2 c5
    refine x_iload_n 2 rfl rfl (dk zX11_gate 13 rfl) ?_
    refine x_i2l (dk zX11_gate 14 rfl) ?_
    refine x_lconst (v := 0) (by decide) (dk zX11_gate 15 rfl) ?_
    refine x_ldc2 (v := 3) rfl wkRX11_96 (dk zX11_gate 16 rfl) ?_
    refine x_callS (as := [.long (Int32.toInt64 x2), .long 0, .long ((3))]) (st := []) rfl okRX11_86 npX11_in ⟨Nat.le_of_ble_eq_true rfl, Nat.le_of_ble_eq_true rfl⟩ (Nat.le_of_ble_eq_true rfl) (dk zX11_gate 17 rfl) ?_
    refine hc5f.mono ?_
    rintro _ m6 ⟨r7, rfl, hm6⟩
    show Ex E MX11_gate Q 30 [(0, .ref 123), (1, .int x1), (2, .int x2)] [.int r7] m6
    refine x_if_ne (tgt := 36) (by decide) (dk zX11_gate 18 rfl) (fun c8 => ?_) (fun c8 => ?_)
    · have hc8t := hm6.1 c8
      refine x_iload_n 2 rfl rfl (dk zX11_gate 21 rfl) ?_
      refine x_if_ne (tgt := 49) (by decide) (dk zX11_gate 22 rfl) (fun c9 => ?_) (fun c9 => ?_)
      · have hc9t := hc8t.1 c9
        refine x_iload_n 2 rfl rfl (dk zX11_gate 28 rfl) ?_
        refine x_iconst (v := 1) (by decide) (dk zX11_gate 29 rfl) ?_
        refine x_icmp_ne (tgt := 63) (by decide) (dk zX11_gate 30 rfl) (fun c10 => ?_) (fun c10 => ?_)
        · have hc10t := hc9t.1 c10
          refine x_iload_n 2 rfl rfl (dk zX11_gate 36 rfl) ?_
          refine x_iconst (v := 2) (by decide) (dk zX11_gate 37 rfl) ?_
          refine x_icmp_ne (tgt := 80) (by decide) (dk zX11_gate 38 rfl) (fun c11 => ?_) (fun c11 => ?_)
          · have hc11t := hc10t.1 c11
            refine x_aload_n 0 rfl rfl (dk zX11_gate 45 rfl) ?_
            refine x_iload_n 1 rfl rfl (dk zX11_gate 46 rfl) ?_
            refine x_callV (as := [.int x1]) (o := 123) (ci := 11) (st := []) rfl okRX11_172 npX11_isShut ⟨Nat.le_of_ble_eq_true rfl, Nat.le_of_ble_eq_true rfl⟩ k123 (by decide) rfl (Nat.le_of_ble_eq_true rfl) (dk zX11_gate 47 rfl) ?_
            refine hc11t.mono ?_
            rintro _ m12 ⟨r13, rfl, hm12⟩
            show Ex E MX11_gate Q 85 [(0, .ref 123), (1, .int x1), (2, .int x2)] [.int r13] m12
            refine x_if_eq (tgt := 92) (by decide) (dk zX11_gate 48 rfl) (fun c14 => ?_) (fun c14 => ?_)
            · have hc14t := hm12.1 c14
              refine x_iconst (v := 0) (by decide) (dk zX11_gate 51 rfl) ?_
              exact x_iret (ty := .int) rfl rfl (dk zX11_gate 52 rfl) hc14t
            · have hc14f := hm12.2 c14
              refine x_iconst (v := 1) (by decide) (dk zX11_gate 49 rfl) ?_
              refine x_goto (tgt := 93) (by decide) (dk zX11_gate 50 rfl) ?_
              exact x_iret (ty := .int) rfl rfl (dk zX11_gate 52 rfl) hc14f
          · have hc11f := hc10t.2 c11
            refine x_aload_n 0 rfl rfl (dk zX11_gate 39 rfl) ?_
            refine gf11_11 (r := 132) rfl k123 r123_11 (dk zX11_gate 40 rfl) ?_
            refine x_iload_n 1 rfl rfl (dk zX11_gate 41 rfl) ?_
            have b15 := hc11f.1
            have hb15 := hc11f.2
            refine y_zald (j := x1.toNatClampNeg) k132 l132 b15 rfl (dk zX11_gate 42 rfl) ?_
            refine x_if_eq (tgt := 92) (by decide) (dk zX11_gate 43 rfl) (fun c16 => ?_) (fun c16 => ?_)
            · have hc16t := hb15.1 c16
              refine x_iconst (v := 0) (by decide) (dk zX11_gate 51 rfl) ?_
              exact x_iret (ty := .int) rfl rfl (dk zX11_gate 52 rfl) hc16t
            · have hc16f := hb15.2 c16
              refine x_goto (tgt := 88) (by decide) (dk zX11_gate 44 rfl) ?_
              refine x_iconst (v := 1) (by decide) (dk zX11_gate 49 rfl) ?_
              refine x_goto (tgt := 93) (by decide) (dk zX11_gate 50 rfl) ?_
              exact x_iret (ty := .int) rfl rfl (dk zX11_gate 52 rfl) hc16f
        · have hc10f := hc9t.2 c10
          refine x_aload_n 0 rfl rfl (dk zX11_gate 31 rfl) ?_
          refine gf11_10 (r := 131) rfl k123 r123_10 (dk zX11_gate 32 rfl) ?_
          refine x_iload_n 1 rfl rfl (dk zX11_gate 33 rfl) ?_
          have b17 := hc10f.1
          have hb17 := hc10f.2
          refine y_iald (j := x1.toNatClampNeg) k131 l131 b17 rfl (dk zX11_gate 34 rfl) ?_
          refine x_goto (tgt := 93) (by decide) (dk zX11_gate 35 rfl) ?_
          exact x_iret (ty := .int) rfl rfl (dk zX11_gate 52 rfl) hb17
      · have hc9f := hc8t.2 c9
        refine x_aload_n 0 rfl rfl (dk zX11_gate 23 rfl) ?_
        refine gf11_9 (r := 130) rfl k123 r123_9 (dk zX11_gate 24 rfl) ?_
        refine x_iload_n 1 rfl rfl (dk zX11_gate 25 rfl) ?_
        have b18 := hc9f.1
        have hb18 := hc9f.2
        refine y_iald (j := x1.toNatClampNeg) k130 l130 b18 rfl (dk zX11_gate 26 rfl) ?_
        refine x_goto (tgt := 93) (by decide) (dk zX11_gate 27 rfl) ?_
        exact x_iret (ty := .int) rfl rfl (dk zX11_gate 52 rfl) hb18
    · have hc8f := hm6.2 c8
      refine x_bipush (v := -2) (by decide) (dk zX11_gate 19 rfl) ?_
      exact x_iret (ty := .int) rfl rfl (dk zX11_gate 20 rfl) hc8f
set_option maxRecDepth 20000 in
set_option maxHeartbeats 2000000 in
theorem gX11_room_0 {E : EV} {Q : Po} {μ : Mem}  (h : Sp E MX11_readsLand [.ref 123] μ (fun v m1 => ∃ r2 : Int32, v = some (.int r2) ∧ Q (some (.int (m1.1 123 12))) m1)) : Ex E MX11_room Q 0 [(0, .ref 123)] [] μ := by
  refine x_aload_n 0 rfl rfl (dk zX11_room 0 rfl) ?_
  refine x_callV (as := []) (o := 123) (ci := 11) (st := []) rfl okRX11_157 npX11_readsLand ⟨Nat.le_of_ble_eq_true rfl, Nat.le_of_ble_eq_true rfl⟩ k123 (by decide) rfl (Nat.le_of_ble_eq_true rfl) (dk zX11_room 1 rfl) ?_
  refine h.mono ?_
  rintro _ m1 ⟨r2, rfl, hm1⟩
  show Ex E MX11_room Q 4 [(0, .ref 123)] [.int r2] m1
  refine x_popi (dk zX11_room 2 rfl) ?_
  refine x_aload_n 0 rfl rfl (dk zX11_room 3 rfl) ?_
  refine gf11_12 rfl k123 (dk zX11_room 4 rfl) ?_
  exact x_iret (ty := .int) rfl rfl (dk zX11_room 5 rfl) hm1
set_option maxRecDepth 20000 in
set_option maxHeartbeats 2000000 in
theorem gX11_shut_0 {E : EV} {Q : Po} {μ : Mem} {x1 : Int32} (h : Sp E MX11_in [.long (Int32.toInt64 x1), .long 0, .long ((511))] μ (fun v m1 => ∃ r2 : Int32, v = some (.int r2) ∧ ((¬ r2 = 0 → ∀ v4 : Int32, v4 = m1.1 123 13 → Q (some (.int v4)) (mI m1 123 13 x1)) ∧ (r2 = 0 → Q (some (.int ((-2)))) m1)))) : Ex E MX11_shut Q 0 [(0, .ref 123), (1, .int x1)] [] μ := by
  refine x_iload_n 1 rfl rfl (dk zX11_shut 0 rfl) ?_
  refine x_i2l (dk zX11_shut 1 rfl) ?_
  refine x_lconst (v := 0) (by decide) (dk zX11_shut 2 rfl) ?_
  refine x_ldc2 (v := 511) rfl wkRX11_175 (dk zX11_shut 3 rfl) ?_
  refine x_callS (as := [.long (Int32.toInt64 x1), .long 0, .long ((511))]) (st := []) rfl okRX11_86 npX11_in ⟨Nat.le_of_ble_eq_true rfl, Nat.le_of_ble_eq_true rfl⟩ (Nat.le_of_ble_eq_true rfl) (dk zX11_shut 4 rfl) ?_
  refine h.mono ?_
  rintro _ m1 ⟨r2, rfl, hm1⟩
  show Ex E MX11_shut Q 9 [(0, .ref 123), (1, .int x1)] [.int r2] m1
  refine x_if_ne (tgt := 15) (by decide) (dk zX11_shut 5 rfl) (fun c3 => ?_) (fun c3 => ?_)
  · have hc3t := hm1.1 c3
    refine x_aload_n 0 rfl rfl (dk zX11_shut 8 rfl) ?_
    refine gf11_13 rfl k123 (dk zX11_shut 9 rfl) ?_
    refine x_topi (fun v4 ev4 => ?_)
    have hv4 := hc3t v4 ev4
    refine x_istore_n (k := 2) (l' := [(0, .ref 123), (1, .int x1), (2, .int v4)]) [1, 2, 0] rfl rfl (by decide) (dk zX11_shut 10 rfl) ?_
    refine x_aload_n 0 rfl rfl (dk zX11_shut 11 rfl) ?_
    refine x_iload_n 1 rfl rfl (dk zX11_shut 12 rfl) ?_
    refine pf11_13 rfl k123 (dk zX11_shut 13 rfl) ?_
    refine x_iload_n 2 rfl rfl (dk zX11_shut 14 rfl) ?_
    exact x_iret (ty := .int) rfl rfl (dk zX11_shut 15 rfl) hv4
  · have hc3f := hm1.2 c3
    refine x_bipush (v := -2) (by decide) (dk zX11_shut 6 rfl) ?_
    exact x_iret (ty := .int) rfl rfl (dk zX11_shut 7 rfl) hc3f
set_option maxRecDepth 20000 in
set_option maxHeartbeats 2000000 in
theorem gX11_stamp_0 {E : EV} {Q : Po} {μ : Mem} {x1 : Int32} {x2 : Int32} (h : vp_in (x2 / 2) 9 ∧ (((¬ (μ.1 132 ((x2 / 2).toNatClampNeg)) = 0 → vp_in x1 2 ∧ (∀ v4 : Int32, v4 = μ.1 134 x1.toNatClampNeg → ((v4 ≤ 0 → vp_in ((60 * x1) + v4) 120 ∧ (∀ v7 : Int32, v7 = ((mI μ 133 (((60 * x1) + v4).toNatClampNeg) x2).1 134 x1.toNatClampNeg) + 1 → Q none (mI (mI μ 133 (((60 * x1) + v4).toNatClampNeg) x2) 134 x1.toNatClampNeg v7))) ∧ (¬ v4 ≤ 0 → vp_in (((60 * x1) + v4) - 1) 120 ∧ (Sp E MX11_back [.int x2] μ (fun v m9 => ∃ r10 : Int32, v = some (.int r10) ∧ ((¬ (μ.1 133 ((((60 * x1) + v4) - 1).toNatClampNeg)) = r10 → vp_in ((60 * x1) + v4) 120 ∧ (∀ v13 : Int32, v13 = ((mI m9 133 (((60 * x1) + v4).toNatClampNeg) x2).1 134 x1.toNatClampNeg) + 1 → Q none (mI (mI m9 133 (((60 * x1) + v4).toNatClampNeg) x2) 134 x1.toNatClampNeg v13))) ∧ ((μ.1 133 ((((60 * x1) + v4) - 1).toNatClampNeg)) = r10 → ∀ v14 : Int32, v14 = (m9.1 134 x1.toNatClampNeg) - 1 → ∀ v15 : Int32, v15 = ((mI m9 134 x1.toNatClampNeg v14).1 123 16) + 1 → Q none (mI (mI m9 134 x1.toNatClampNeg v14) 123 16 v15))))))))) ∧ ((μ.1 132 ((x2 / 2).toNatClampNeg)) = 0 → Q none μ)))) : Ex E MX11_stamp Q 0 [(0, .ref 123), (1, .int x1), (2, .int x2)] [] μ := by
  refine x_aload_n 0 rfl rfl (dk zX11_stamp 0 rfl) ?_
  refine gf11_11 (r := 132) rfl k123 r123_11 (dk zX11_stamp 1 rfl) ?_
  refine x_iload_n 2 rfl rfl (dk zX11_stamp 2 rfl) ?_
  refine x_iconst (v := 2) (by decide) (dk zX11_stamp 3 rfl) ?_
  refine x_idiv (by decide) (dk zX11_stamp 4 rfl) ?_
  have b1 := h.1
  have hb1 := h.2
  refine y_zald (j := (x2 / 2).toNatClampNeg) k132 l132 b1 rfl (dk zX11_stamp 5 rfl) ?_
  refine x_if_ne (tgt := 12) (by decide) (dk zX11_stamp 6 rfl) (fun c2 => ?_) (fun c2 => ?_)
  · have hc2t := hb1.1 c2
    refine x_aload_n 0 rfl rfl (dk zX11_stamp 8 rfl) ?_
    refine gf11_15 (r := 134) rfl k123 r123_15 (dk zX11_stamp 9 rfl) ?_
    refine x_iload_n 1 rfl rfl (dk zX11_stamp 10 rfl) ?_
    have b3 := hc2t.1
    have hb3 := hc2t.2
    refine y_iald (j := x1.toNatClampNeg) k134 l134 b3 rfl (dk zX11_stamp 11 rfl) ?_
    refine x_topi (fun v4 ev4 => ?_)
    have hv4 := hb3 v4 ev4
    refine x_istore_n (k := 3) (l' := [(0, .ref 123), (1, .int x1), (2, .int x2), (3, .int v4)]) [1, 2, 3, 0] rfl rfl (by decide) (dk zX11_stamp 12 rfl) ?_
    refine x_iload_n 3 rfl rfl (dk zX11_stamp 13 rfl) ?_
    refine x_if_le (tgt := 66) (by decide) (dk zX11_stamp 14 rfl) (fun c5 => ?_) (fun c5 => ?_)
    · have hc5t := hv4.1 c5
      refine x_aload_n 0 rfl rfl (dk zX11_stamp 43 rfl) ?_
      refine gf11_14 (r := 133) rfl k123 r123_14 (dk zX11_stamp 44 rfl) ?_
      refine x_bipush (v := 60) (by decide) (dk zX11_stamp 45 rfl) ?_
      refine x_iload_n 1 rfl rfl (dk zX11_stamp 46 rfl) ?_
      refine x_imul (dk zX11_stamp 47 rfl) ?_
      refine x_iload_n 3 rfl rfl (dk zX11_stamp 48 rfl) ?_
      refine x_iadd (dk zX11_stamp 49 rfl) ?_
      refine x_iload_n 2 rfl rfl (dk zX11_stamp 50 rfl) ?_
      have b6 := hc5t.1
      have hb6 := hc5t.2
      refine y_iast (j := ((60 * x1) + v4).toNatClampNeg) k133 l133 b6 rfl (dk zX11_stamp 51 rfl) ?_
      refine x_aload_n 0 rfl rfl (dk zX11_stamp 52 rfl) ?_
      refine gf11_15 (r := 134) rfl k123 r123_15 (dk zX11_stamp 53 rfl) ?_
      refine x_iload_n 1 rfl rfl (dk zX11_stamp 54 rfl) ?_
      refine x_dup2ri (dk zX11_stamp 55 rfl) ?_
      refine y_iald (j := x1.toNatClampNeg) k134 l134 b3 rfl (dk zX11_stamp 56 rfl) ?_
      refine x_iconst (v := 1) (by decide) (dk zX11_stamp 57 rfl) ?_
      refine x_iadd (dk zX11_stamp 58 rfl) ?_
      refine x_topi (fun v7 ev7 => ?_)
      have hv7 := hb6 v7 ev7
      refine y_iast (j := x1.toNatClampNeg) k134 l134 b3 rfl (dk zX11_stamp 59 rfl) ?_
      exact x_vret rfl (dk zX11_stamp 60 rfl) hv7
    · have hc5f := hv4.2 c5
      refine x_aload_n 0 rfl rfl (dk zX11_stamp 15 rfl) ?_
      refine gf11_14 (r := 133) rfl k123 r123_14 (dk zX11_stamp 16 rfl) ?_
      refine x_bipush (v := 60) (by decide) (dk zX11_stamp 17 rfl) ?_
      refine x_iload_n 1 rfl rfl (dk zX11_stamp 18 rfl) ?_
      refine x_imul (dk zX11_stamp 19 rfl) ?_
      refine x_iload_n 3 rfl rfl (dk zX11_stamp 20 rfl) ?_
      refine x_iadd (dk zX11_stamp 21 rfl) ?_
      refine x_iconst (v := 1) (by decide) (dk zX11_stamp 22 rfl) ?_
      refine x_isub (dk zX11_stamp 23 rfl) ?_
      have b8 := hc5f.1
      have hb8 := hc5f.2
      refine y_iald (j := (((60 * x1) + v4) - 1).toNatClampNeg) k133 l133 b8 rfl (dk zX11_stamp 24 rfl) ?_
      refine x_iload_n 2 rfl rfl (dk zX11_stamp 25 rfl) ?_
      refine x_callS (as := [.int x2]) (st := [.int (μ.1 133 ((((60 * x1) + v4) - 1).toNatClampNeg))]) rfl okRX11_177 npX11_back ⟨Nat.le_of_ble_eq_true rfl, Nat.le_of_ble_eq_true rfl⟩ (Nat.le_of_ble_eq_true rfl) (dk zX11_stamp 26 rfl) ?_
      refine hb8.mono ?_
      rintro _ m9 ⟨r10, rfl, hm9⟩
      show Ex E MX11_stamp Q 40 [(0, .ref 123), (1, .int x1), (2, .int x2), (3, .int v4)] [.int r10, .int (μ.1 133 ((((60 * x1) + v4) - 1).toNatClampNeg))] m9
      refine x_icmp_ne (tgt := 66) (by decide) (dk zX11_stamp 27 rfl) (fun c11 => ?_) (fun c11 => ?_)
      · have hc11t := hm9.1 c11
        refine x_aload_n 0 rfl rfl (dk zX11_stamp 43 rfl) ?_
        refine gf11_14 (r := 133) rfl k123 r123_14 (dk zX11_stamp 44 rfl) ?_
        refine x_bipush (v := 60) (by decide) (dk zX11_stamp 45 rfl) ?_
        refine x_iload_n 1 rfl rfl (dk zX11_stamp 46 rfl) ?_
        refine x_imul (dk zX11_stamp 47 rfl) ?_
        refine x_iload_n 3 rfl rfl (dk zX11_stamp 48 rfl) ?_
        refine x_iadd (dk zX11_stamp 49 rfl) ?_
        refine x_iload_n 2 rfl rfl (dk zX11_stamp 50 rfl) ?_
        have b12 := hc11t.1
        have hb12 := hc11t.2
        refine y_iast (j := ((60 * x1) + v4).toNatClampNeg) k133 l133 b12 rfl (dk zX11_stamp 51 rfl) ?_
        refine x_aload_n 0 rfl rfl (dk zX11_stamp 52 rfl) ?_
        refine gf11_15 (r := 134) rfl k123 r123_15 (dk zX11_stamp 53 rfl) ?_
        refine x_iload_n 1 rfl rfl (dk zX11_stamp 54 rfl) ?_
        refine x_dup2ri (dk zX11_stamp 55 rfl) ?_
        refine y_iald (j := x1.toNatClampNeg) k134 l134 b3 rfl (dk zX11_stamp 56 rfl) ?_
        refine x_iconst (v := 1) (by decide) (dk zX11_stamp 57 rfl) ?_
        refine x_iadd (dk zX11_stamp 58 rfl) ?_
        refine x_topi (fun v13 ev13 => ?_)
        have hv13 := hb12 v13 ev13
        refine y_iast (j := x1.toNatClampNeg) k134 l134 b3 rfl (dk zX11_stamp 59 rfl) ?_
        exact x_vret rfl (dk zX11_stamp 60 rfl) hv13
      · have hc11f := hm9.2 c11
        refine x_aload_n 0 rfl rfl (dk zX11_stamp 28 rfl) ?_
        refine gf11_15 (r := 134) rfl k123 r123_15 (dk zX11_stamp 29 rfl) ?_
        refine x_iload_n 1 rfl rfl (dk zX11_stamp 30 rfl) ?_
        refine x_dup2ri (dk zX11_stamp 31 rfl) ?_
        refine y_iald (j := x1.toNatClampNeg) k134 l134 b3 rfl (dk zX11_stamp 32 rfl) ?_
        refine x_iconst (v := 1) (by decide) (dk zX11_stamp 33 rfl) ?_
        refine x_isub (dk zX11_stamp 34 rfl) ?_
        refine x_topi (fun v14 ev14 => ?_)
        have hv14 := hc11f v14 ev14
        refine y_iast (j := x1.toNatClampNeg) k134 l134 b3 rfl (dk zX11_stamp 35 rfl) ?_
        refine x_aload_n 0 rfl rfl (dk zX11_stamp 36 rfl) ?_
        refine x_dupr (dk zX11_stamp 37 rfl) ?_
        refine gf11_16 rfl k123 (dk zX11_stamp 38 rfl) ?_
        refine x_iconst (v := 1) (by decide) (dk zX11_stamp 39 rfl) ?_
        refine x_iadd (dk zX11_stamp 40 rfl) ?_
        refine x_topi (fun v15 ev15 => ?_)
        have hv15 := hv14 v15 ev15
        refine pf11_16 rfl k123 (dk zX11_stamp 41 rfl) ?_
        refine x_goto (tgt := 88) (by decide) (dk zX11_stamp 42 rfl) ?_
        exact x_vret rfl (dk zX11_stamp 60 rfl) hv15
  · have hc2f := hb1.2 c2
    exact x_vret rfl (dk zX11_stamp 7 rfl) hc2f
set_option maxRecDepth 20000 in
set_option maxHeartbeats 2000000 in
theorem gX11_lengthOf_0 {E : EV} {Q : Po} {μ : Mem} {x1 : Int32} (h : Sp E MX11_faultOf [.ref 123, .int x1] μ (fun v m1 => ∃ r2 : Int32, v = some (.int r2) ∧ ((¬ r2 = ((-1)) → Q (some (.int 0)) m1) ∧ (r2 = ((-1)) → vp_in x1 4 ∧ (Q (some (.int (m1.1 129 x1.toNatClampNeg))) m1))))) : Ex E MX11_lengthOf Q 0 [(0, .ref 123), (1, .int x1)] [] μ := by
  refine x_aload_n 0 rfl rfl (dk zX11_lengthOf 0 rfl) ?_
  refine x_iload_n 1 rfl rfl (dk zX11_lengthOf 1 rfl) ?_
  refine x_callV (as := [.int x1]) (o := 123) (ci := 11) (st := []) rfl okRX11_163 npX11_faultOf ⟨Nat.le_of_ble_eq_true rfl, Nat.le_of_ble_eq_true rfl⟩ k123 (by decide) rfl (Nat.le_of_ble_eq_true rfl) (dk zX11_lengthOf 2 rfl) ?_
  refine h.mono ?_
  rintro _ m1 ⟨r2, rfl, hm1⟩
  show Ex E MX11_lengthOf Q 5 [(0, .ref 123), (1, .int x1)] [.int r2] m1
  refine x_iconst (v := -1) (by decide) (dk zX11_lengthOf 3 rfl) ?_
  refine x_icmp_ne (tgt := 18) (by decide) (dk zX11_lengthOf 4 rfl) (fun c3 => ?_) (fun c3 => ?_)
  · have hc3t := hm1.1 c3
    refine x_iconst (v := 0) (by decide) (dk zX11_lengthOf 10 rfl) ?_
    exact x_iret (ty := .int) rfl rfl (dk zX11_lengthOf 11 rfl) hc3t
  · have hc3f := hm1.2 c3
    refine x_aload_n 0 rfl rfl (dk zX11_lengthOf 5 rfl) ?_
    refine gf11_6 (r := 129) rfl k123 r123_6 (dk zX11_lengthOf 6 rfl) ?_
    refine x_iload_n 1 rfl rfl (dk zX11_lengthOf 7 rfl) ?_
    have b4 := hc3f.1
    have hb4 := hc3f.2
    refine y_iald (j := x1.toNatClampNeg) k129 l129 b4 rfl (dk zX11_lengthOf 8 rfl) ?_
    refine x_goto (tgt := 19) (by decide) (dk zX11_lengthOf 9 rfl) ?_
    exact x_iret (ty := .int) rfl rfl (dk zX11_lengthOf 11 rfl) hb4
set_option maxRecDepth 20000 in
set_option maxHeartbeats 2000000 in
theorem gX11_letterAt_0 {E : EV} {Q : Po} {μ : Mem} {x1 : Int32} {x2 : Int32} (h : Sp E MX11_from [.int x1] μ (fun v m1 => ∃ r2 : Int32, v = some (.int r2) ∧ vp_in (r2 + x2) 140 ∧ (Sp E MX11_letterOf [.ref 123, .int (m1.1 128 ((r2 + x2).toNatClampNeg))] m1 (fun v m4 => ∃ r5 : Int32, v = some (.int r5) ∧ Q (some (.int r5)) m4)))) : Ex E MX11_letterAt Q 0 [(0, .ref 123), (1, .int x1), (2, .int x2)] [] μ := by
  refine x_aload_n 0 rfl rfl (dk zX11_letterAt 0 rfl) ?_
  refine x_aload_n 0 rfl rfl (dk zX11_letterAt 1 rfl) ?_
  refine gf11_5 (r := 128) rfl k123 r123_5 (dk zX11_letterAt 2 rfl) ?_
  refine x_iload_n 1 rfl rfl (dk zX11_letterAt 3 rfl) ?_
  refine x_callS (as := [.int x1]) (st := [.ref 128, .ref 123]) rfl okRX11_122 npX11_from ⟨Nat.le_of_ble_eq_true rfl, Nat.le_of_ble_eq_true rfl⟩ (Nat.le_of_ble_eq_true rfl) (dk zX11_letterAt 4 rfl) ?_
  refine h.mono ?_
  rintro _ m1 ⟨r2, rfl, hm1⟩
  show Ex E MX11_letterAt Q 9 [(0, .ref 123), (1, .int x1), (2, .int x2)] [.int r2, .ref 128, .ref 123] m1
  refine x_iload_n 2 rfl rfl (dk zX11_letterAt 5 rfl) ?_
  refine x_iadd (dk zX11_letterAt 6 rfl) ?_
  have b3 := hm1.1
  have hb3 := hm1.2
  refine y_iald (j := (r2 + x2).toNatClampNeg) k128 l128 b3 rfl (dk zX11_letterAt 7 rfl) ?_
  refine x_callV (as := [.int (m1.1 128 ((r2 + x2).toNatClampNeg))]) (o := 123) (ci := 11) (st := []) rfl okRX11_160 npX11_letterOf ⟨Nat.le_of_ble_eq_true rfl, Nat.le_of_ble_eq_true rfl⟩ k123 (by decide) rfl (Nat.le_of_ble_eq_true rfl) (dk zX11_letterAt 8 rfl) ?_
  refine hb3.mono ?_
  rintro _ m4 ⟨r5, rfl, hm4⟩
  show Ex E MX11_letterAt Q 15 [(0, .ref 123), (1, .int x1), (2, .int x2)] [.int r5] m4
  exact x_iret (ty := .int) rfl rfl (dk zX11_letterAt 9 rfl) hm4
set_option maxRecDepth 20000 in
set_option maxHeartbeats 2000000 in
theorem gX11_findPaper_0 {E : EV} {Q : Po} {μ : Mem} {x1 : Int32} {x2 : Int32} (h : Sp E MX11_readsLand [.ref 123] μ (fun v m1 => ∃ r2 : Int32, v = some (.int r2) ∧ vp_in x1 2 ∧ (((¬ x2 = 0 → Sp E MX11_lengthOf [.ref 123, .int x2] (mI m1 134 x1.toNatClampNeg 0) (fun v m5 => ∃ r6 : Int32, v = some (.int r6) ∧ Ex E MX11_findPaper Q 29 [(0, .ref 123), (1, .int x1), (2, .int x2), (3, .int r6), (4, .int 0)] [] m5)) ∧ (x2 = 0 → Ex E MX11_findPaper Q 29 [(0, .ref 123), (1, .int x1), (2, .int x2), (3, .int 0), (4, .int 0)] [] (mI m1 134 x1.toNatClampNeg 0)))))) : Ex E MX11_findPaper Q 0 [(0, .ref 123), (1, .int x1), (2, .int x2)] [] μ := by
  refine x_aload_n 0 rfl rfl (dk zX11_findPaper 0 rfl) ?_
  refine x_callV (as := []) (o := 123) (ci := 11) (st := []) rfl okRX11_157 npX11_readsLand ⟨Nat.le_of_ble_eq_true rfl, Nat.le_of_ble_eq_true rfl⟩ k123 (by decide) rfl (Nat.le_of_ble_eq_true rfl) (dk zX11_findPaper 1 rfl) ?_
  refine h.mono ?_
  rintro _ m1 ⟨r2, rfl, hm1⟩
  show Ex E MX11_findPaper Q 4 [(0, .ref 123), (1, .int x1), (2, .int x2)] [.int r2] m1
  refine x_popi (dk zX11_findPaper 2 rfl) ?_
  refine x_aload_n 0 rfl rfl (dk zX11_findPaper 3 rfl) ?_
  refine gf11_15 (r := 134) rfl k123 r123_15 (dk zX11_findPaper 4 rfl) ?_
  refine x_iload_n 1 rfl rfl (dk zX11_findPaper 5 rfl) ?_
  refine x_iconst (v := 0) (by decide) (dk zX11_findPaper 6 rfl) ?_
  have b3 := hm1.1
  have hb3 := hm1.2
  refine y_iast (j := x1.toNatClampNeg) k134 l134 b3 rfl (dk zX11_findPaper 7 rfl) ?_
  refine x_iload_n 2 rfl rfl (dk zX11_findPaper 8 rfl) ?_
  refine x_if_ne (tgt := 20) (by decide) (dk zX11_findPaper 9 rfl) (fun c4 => ?_) (fun c4 => ?_)
  · have hc4t := hb3.1 c4
    refine x_aload_n 0 rfl rfl (dk zX11_findPaper 12 rfl) ?_
    refine x_iload_n 2 rfl rfl (dk zX11_findPaper 13 rfl) ?_
    refine x_callV (as := [.int x2]) (o := 123) (ci := 11) (st := []) rfl okRX11_183 npX11_lengthOf ⟨Nat.le_of_ble_eq_true rfl, Nat.le_of_ble_eq_true rfl⟩ k123 (by decide) rfl (Nat.le_of_ble_eq_true rfl) (dk zX11_findPaper 14 rfl) ?_
    refine hc4t.mono ?_
    rintro _ m5 ⟨r6, rfl, hm5⟩
    show Ex E MX11_findPaper Q 25 [(0, .ref 123), (1, .int x1), (2, .int x2)] [.int r6] m5
    refine x_istore_n (k := 3) (l' := [(0, .ref 123), (1, .int x1), (2, .int x2), (3, .int r6)]) [1, 2, 3, 0] rfl rfl (by decide) (dk zX11_findPaper 15 rfl) ?_
    refine x_iconst (v := 0) (by decide) (dk zX11_findPaper 16 rfl) ?_
    refine x_istoreG (l' := [(0, .ref 123), (1, .int x1), (2, .int x2), (3, .int r6), (4, .int 0)]) [1, 2, 3, 4, 0] rfl (by decide) (dk zX11_findPaper 17 rfl) ?_
    exact hm5
  · have hc4f := hb3.2 c4
    refine x_iconst (v := 0) (by decide) (dk zX11_findPaper 10 rfl) ?_
    refine x_goto (tgt := 25) (by decide) (dk zX11_findPaper 11 rfl) ?_
    refine x_istore_n (k := 3) (l' := [(0, .ref 123), (1, .int x1), (2, .int x2), (3, .int 0)]) [1, 2, 3, 0] rfl rfl (by decide) (dk zX11_findPaper 15 rfl) ?_
    refine x_iconst (v := 0) (by decide) (dk zX11_findPaper 16 rfl) ?_
    refine x_istoreG (l' := [(0, .ref 123), (1, .int x1), (2, .int x2), (3, .int 0), (4, .int 0)]) [1, 2, 3, 4, 0] rfl (by decide) (dk zX11_findPaper 17 rfl) ?_
    exact hc4f
set_option maxRecDepth 20000 in
set_option maxHeartbeats 2000000 in
theorem gX11_findPaper_29 {E : EV} {Q : Po} {μ : Mem} {x1 : Int32} {x2 : Int32} {x3 : Int32} {x4 : Int32} (h : ((x3 ≤ x4 → Q none μ) ∧ (¬ x3 ≤ x4 → Sp E MX11_letterAt [.ref 123, .int x2, .int x4] μ (fun v m2 => ∃ r3 : Int32, v = some (.int r3) ∧ Sp E MX11_stamp [.ref 123, .int x1, .int r3] m2 (fun v m4 => v = none ∧ ∀ v5 : Int32, v5 = x4 + 1 → Ex E MX11_findPaper Q 29 [(0, .ref 123), (1, .int x1), (2, .int x2), (3, .int x3), (4, .int v5)] [] m4))))) : Ex E MX11_findPaper Q 29 [(0, .ref 123), (1, .int x1), (2, .int x2), (3, .int x3), (4, .int x4)] [] μ := by
  refine x_iload 4 rfl (dk zX11_findPaper 18 rfl) ?_
  refine x_iload_n 3 rfl rfl (dk zX11_findPaper 19 rfl) ?_
  refine x_icmp_ge (tgt := 53) (by decide) (dk zX11_findPaper 20 rfl) (fun c1 => ?_) (fun c1 => ?_)
  · have hc1t := h.1 c1
    exact x_vret rfl (dk zX11_findPaper 30 rfl) hc1t
  · have hc1f := h.2 c1
    refine x_aload_n 0 rfl rfl (dk zX11_findPaper 21 rfl) ?_
    refine x_iload_n 1 rfl rfl (dk zX11_findPaper 22 rfl) ?_
    refine x_aload_n 0 rfl rfl (dk zX11_findPaper 23 rfl) ?_
    refine x_iload_n 2 rfl rfl (dk zX11_findPaper 24 rfl) ?_
    refine x_iload 4 rfl (dk zX11_findPaper 25 rfl) ?_
    refine x_callV (as := [.int x2, .int x4]) (o := 123) (ci := 11) (st := [.int x1, .ref 123]) rfl okRX11_186 npX11_letterAt ⟨Nat.le_of_ble_eq_true rfl, Nat.le_of_ble_eq_true rfl⟩ k123 (by decide) rfl (Nat.le_of_ble_eq_true rfl) (dk zX11_findPaper 26 rfl) ?_
    refine hc1f.mono ?_
    rintro _ m2 ⟨r3, rfl, hm2⟩
    show Ex E MX11_findPaper Q 44 [(0, .ref 123), (1, .int x1), (2, .int x2), (3, .int x3), (4, .int x4)] [.int r3, .int x1, .ref 123] m2
    refine x_callV (as := [.int x1, .int r3]) (o := 123) (ci := 11) (st := []) rfl okRX11_189 npX11_stamp ⟨Nat.le_of_ble_eq_true rfl, Nat.le_of_ble_eq_true rfl⟩ k123 (by decide) rfl (Nat.le_of_ble_eq_true rfl) (dk zX11_findPaper 27 rfl) ?_
    refine hm2.mono ?_
    rintro _ m4 ⟨rfl, hm4⟩
    show Ex E MX11_findPaper Q 47 [(0, .ref 123), (1, .int x1), (2, .int x2), (3, .int x3), (4, .int x4)] [] m4
    obtain ⟨v5, ev5⟩ : ∃ y : Int32, y = x4 + 1 := ⟨_, rfl⟩
    have hv5 := hm4 v5 ev5
    refine x_iinc (v := v5) (l' := [(0, .ref 123), (1, .int x1), (2, .int x2), (3, .int x3), (4, .int v5)]) 4 rfl (by rw [ev5]; rfl) [1, 2, 3, 4, 0] rfl (by decide) (dk zX11_findPaper 28 rfl) ?_
    refine x_goto (tgt := 29) (by decide) (dk zX11_findPaper 29 rfl) ?_
    exact hv5
set_option maxRecDepth 20000 in
set_option maxHeartbeats 2000000 in
theorem gX11_paper_0 {E : EV} {Q : Po} {μ : Mem} {x1 : Int32} {x2 : Int32} (h : Sp E MX11_isWay [.int x1] μ (fun v m1 => ∃ r2 : Int32, v = some (.int r2) ∧ ((r2 = 0 → Q (some (.int ((-2)))) m1) ∧ (¬ r2 = 0 → ((((-1)) ≤ x2 → Sp E MX11_findPaper [.ref 123, .int 0, .int x1] m1 (fun v m5 => v = none ∧ ((¬ x2 = ((-1)) → (((m5.1 134 0) ≤ x2 → Q (some (.int ((-1)))) m5) ∧ (¬ (m5.1 134 0) ≤ x2 → vp_in x2 120 ∧ (Sp E MX11_byteOf [.int (m5.1 133 x2.toNatClampNeg)] m5 (fun v m9 => ∃ r10 : Int32, v = some (.int r10) ∧ Q (some (.int r10)) m9))))) ∧ (x2 = ((-1)) → Q (some (.int (m5.1 134 0))) m5)))) ∧ (¬ ((-1)) ≤ x2 → Q (some (.int ((-2)))) m1)))))) : Ex E MX11_paper Q 0 [(0, .ref 123), (1, .int x1), (2, .int x2)] [] μ := by
  refine x_iload_n 1 rfl rfl (dk zX11_paper 0 rfl) ?_
  refine x_callS (as := [.int x1]) (st := []) rfl okRX11_193 npX11_isWay ⟨Nat.le_of_ble_eq_true rfl, Nat.le_of_ble_eq_true rfl⟩ (Nat.le_of_ble_eq_true rfl) (dk zX11_paper 1 rfl) ?_
  refine h.mono ?_
  rintro _ m1 ⟨r2, rfl, hm1⟩
  show Ex E MX11_paper Q 4 [(0, .ref 123), (1, .int x1), (2, .int x2)] [.int r2] m1
  refine x_if_eq (tgt := 12) (by decide) (dk zX11_paper 2 rfl) (fun c3 => ?_) (fun c3 => ?_)
  · have hc3t := hm1.1 c3
    refine x_bipush (v := -2) (by decide) (dk zX11_paper 6 rfl) ?_
    exact x_iret (ty := .int) rfl rfl (dk zX11_paper 7 rfl) hc3t
  · have hc3f := hm1.2 c3
    refine x_iload_n 2 rfl rfl (dk zX11_paper 3 rfl) ?_
    refine x_iconst (v := -1) (by decide) (dk zX11_paper 4 rfl) ?_
    refine x_icmp_ge (tgt := 15) (by decide) (dk zX11_paper 5 rfl) (fun c4 => ?_) (fun c4 => ?_)
    · have hc4t := hc3f.1 c4
      refine x_aload_n 0 rfl rfl (dk zX11_paper 8 rfl) ?_
      refine x_iconst (v := 0) (by decide) (dk zX11_paper 9 rfl) ?_
      refine x_iload_n 1 rfl rfl (dk zX11_paper 10 rfl) ?_
      refine x_callV (as := [.int 0, .int x1]) (o := 123) (ci := 11) (st := []) rfl okRX11_196 npX11_findPaper ⟨Nat.le_of_ble_eq_true rfl, Nat.le_of_ble_eq_true rfl⟩ k123 (by decide) rfl (Nat.le_of_ble_eq_true rfl) (dk zX11_paper 11 rfl) ?_
      refine hc4t.mono ?_
      rintro _ m5 ⟨rfl, hm5⟩
      show Ex E MX11_paper Q 21 [(0, .ref 123), (1, .int x1), (2, .int x2)] [] m5
      refine x_iload_n 2 rfl rfl (dk zX11_paper 12 rfl) ?_
      refine x_iconst (v := -1) (by decide) (dk zX11_paper 13 rfl) ?_
      refine x_icmp_ne (tgt := 35) (by decide) (dk zX11_paper 14 rfl) (fun c6 => ?_) (fun c6 => ?_)
      · have hc6t := hm5.1 c6
        refine x_iload_n 2 rfl rfl (dk zX11_paper 20 rfl) ?_
        refine x_aload_n 0 rfl rfl (dk zX11_paper 21 rfl) ?_
        refine gf11_15 (r := 134) rfl k123 r123_15 (dk zX11_paper 22 rfl) ?_
        refine x_iconst (v := 0) (by decide) (dk zX11_paper 23 rfl) ?_
        refine y_iald (j := 0) k134 l134 (by unfold vp_in; decide) (by decide) (dk zX11_paper 24 rfl) ?_
        refine x_icmp_ge (tgt := 57) (by decide) (dk zX11_paper 25 rfl) (fun c7 => ?_) (fun c7 => ?_)
        · have hc7t := hc6t.1 c7
          refine x_iconst (v := -1) (by decide) (dk zX11_paper 32 rfl) ?_
          exact x_iret (ty := .int) rfl rfl (dk zX11_paper 33 rfl) hc7t
        · have hc7f := hc6t.2 c7
          refine x_aload_n 0 rfl rfl (dk zX11_paper 26 rfl) ?_
          refine gf11_14 (r := 133) rfl k123 r123_14 (dk zX11_paper 27 rfl) ?_
          refine x_iload_n 2 rfl rfl (dk zX11_paper 28 rfl) ?_
          have b8 := hc7f.1
          have hb8 := hc7f.2
          refine y_iald (j := x2.toNatClampNeg) k133 l133 b8 rfl (dk zX11_paper 29 rfl) ?_
          refine x_callS (as := [.int (m5.1 133 x2.toNatClampNeg)]) (st := []) rfl okRX11_199 npX11_byteOf ⟨Nat.le_of_ble_eq_true rfl, Nat.le_of_ble_eq_true rfl⟩ (Nat.le_of_ble_eq_true rfl) (dk zX11_paper 30 rfl) ?_
          refine hb8.mono ?_
          rintro _ m9 ⟨r10, rfl, hm9⟩
          show Ex E MX11_paper Q 54 [(0, .ref 123), (1, .int x1), (2, .int x2)] [.int r10] m9
          refine x_goto (tgt := 58) (by decide) (dk zX11_paper 31 rfl) ?_
          exact x_iret (ty := .int) rfl rfl (dk zX11_paper 33 rfl) hm9
      · have hc6f := hm5.2 c6
        refine x_aload_n 0 rfl rfl (dk zX11_paper 15 rfl) ?_
        refine gf11_15 (r := 134) rfl k123 r123_15 (dk zX11_paper 16 rfl) ?_
        refine x_iconst (v := 0) (by decide) (dk zX11_paper 17 rfl) ?_
        refine y_iald (j := 0) k134 l134 (by unfold vp_in; decide) (by decide) (dk zX11_paper 18 rfl) ?_
        refine x_goto (tgt := 58) (by decide) (dk zX11_paper 19 rfl) ?_
        exact x_iret (ty := .int) rfl rfl (dk zX11_paper 33 rfl) hc6f
    · have hc4f := hc3f.2 c4
      refine x_bipush (v := -2) (by decide) (dk zX11_paper 6 rfl) ?_
      exact x_iret (ty := .int) rfl rfl (dk zX11_paper 7 rfl) hc4f
set_option maxRecDepth 20000 in
set_option maxHeartbeats 2000000 in
theorem gX11_isBegun_0 {E : EV} {Q : Po} {μ : Mem} {x1 : Int32} (h : Sp E MX11_in [.long (Int32.toInt64 x1), .long 0, .long ((3))] μ (fun v m1 => ∃ r2 : Int32, v = some (.int r2) ∧ ((r2 = 0 ∨ r2 = 1) ∧ Q (some (.int r2)) m1))) : Ex E MX11_isBegun Q 0 [(0, .ref 123), (1, .int x1)] [] μ := by
  refine x_iload_n 1 rfl rfl (dk zX11_isBegun 0 rfl) ?_
  refine x_i2l (dk zX11_isBegun 1 rfl) ?_
  refine x_lconst (v := 0) (by decide) (dk zX11_isBegun 2 rfl) ?_
  refine x_ldc2 (v := 3) rfl wkRX11_96 (dk zX11_isBegun 3 rfl) ?_
  refine x_callS (as := [.long (Int32.toInt64 x1), .long 0, .long ((3))]) (st := []) rfl okRX11_86 npX11_in ⟨Nat.le_of_ble_eq_true rfl, Nat.le_of_ble_eq_true rfl⟩ (Nat.le_of_ble_eq_true rfl) (dk zX11_isBegun 4 rfl) ?_
  refine h.mono ?_
  rintro _ m1 ⟨r2, rfl, hm1⟩
  show Ex E MX11_isBegun Q 9 [(0, .ref 123), (1, .int x1)] [.int r2] m1
  exact x_iret rfl (nar_b hm1.1) (dk zX11_isBegun 5 rfl) hm1.2
set_option maxRecDepth 20000 in
set_option maxHeartbeats 2000000 in
theorem gX11_judgedOf_0 {E : EV} {Q : Po} {μ : Mem} {x1 : Int32} {x2 : Int32} {x3 : Int32} {x4 : Int32} (h : Sp E MX11_findPaper [.ref 123, .int 0, .int x3] μ (fun v m1 => v = none ∧ ∀ v2 : Int32, v2 = (mI m1 123 16 0).1 134 0 → Sp E MX11_lengthOf [.ref 123, .int x1] (mI m1 123 16 0) (fun v m3 => ∃ r4 : Int32, v = some (.int r4) ∧ Ex E MX11_judgedOf Q 35 [(0, .ref 123), (1, .int x1), (2, .int x2), (3, .int x3), (4, .int x4), (5, .int x2), (6, .int v2), (7, .int ((-1))), (8, .int r4), (9, .int 0)] [] m3))) : Ex E MX11_judgedOf Q 0 [(0, .ref 123), (1, .int x1), (2, .int x2), (3, .int x3), (4, .int x4)] [] μ := by
  refine x_aload_n 0 rfl rfl (dk zX11_judgedOf 0 rfl) ?_
  refine x_iconst (v := 0) (by decide) (dk zX11_judgedOf 1 rfl) ?_
  refine x_iload_n 3 rfl rfl (dk zX11_judgedOf 2 rfl) ?_
  refine x_callV (as := [.int 0, .int x3]) (o := 123) (ci := 11) (st := []) rfl okRX11_196 npX11_findPaper ⟨Nat.le_of_ble_eq_true rfl, Nat.le_of_ble_eq_true rfl⟩ k123 (by decide) rfl (Nat.le_of_ble_eq_true rfl) (dk zX11_judgedOf 3 rfl) ?_
  refine h.mono ?_
  rintro _ m1 ⟨rfl, hm1⟩
  show Ex E MX11_judgedOf Q 6 [(0, .ref 123), (1, .int x1), (2, .int x2), (3, .int x3), (4, .int x4)] [] m1
  refine x_aload_n 0 rfl rfl (dk zX11_judgedOf 4 rfl) ?_
  refine x_iconst (v := 0) (by decide) (dk zX11_judgedOf 5 rfl) ?_
  refine pf11_16 rfl k123 (dk zX11_judgedOf 6 rfl) ?_
  refine x_iload_n 2 rfl rfl (dk zX11_judgedOf 7 rfl) ?_
  refine x_istoreG (l' := [(0, .ref 123), (1, .int x1), (2, .int x2), (3, .int x3), (4, .int x4), (5, .int x2)]) [1, 2, 3, 4, 5, 0] rfl (by decide) (dk zX11_judgedOf 8 rfl) ?_
  refine x_aload_n 0 rfl rfl (dk zX11_judgedOf 9 rfl) ?_
  refine gf11_15 (r := 134) rfl k123 r123_15 (dk zX11_judgedOf 10 rfl) ?_
  refine x_iconst (v := 0) (by decide) (dk zX11_judgedOf 11 rfl) ?_
  refine y_iald (j := 0) k134 l134 (by unfold vp_in; decide) (by decide) (dk zX11_judgedOf 12 rfl) ?_
  refine x_topi (fun v2 ev2 => ?_)
  have hv2 := hm1 v2 ev2
  refine x_istoreG (l' := [(0, .ref 123), (1, .int x1), (2, .int x2), (3, .int x3), (4, .int x4), (5, .int x2), (6, .int v2)]) [1, 2, 3, 4, 5, 6, 0] rfl (by decide) (dk zX11_judgedOf 13 rfl) ?_
  refine x_iconst (v := -1) (by decide) (dk zX11_judgedOf 14 rfl) ?_
  refine x_istoreG (l' := [(0, .ref 123), (1, .int x1), (2, .int x2), (3, .int x3), (4, .int x4), (5, .int x2), (6, .int v2), (7, .int ((-1)))]) [1, 2, 3, 4, 5, 6, 7, 0] rfl (by decide) (dk zX11_judgedOf 15 rfl) ?_
  refine x_aload_n 0 rfl rfl (dk zX11_judgedOf 16 rfl) ?_
  refine x_iload_n 1 rfl rfl (dk zX11_judgedOf 17 rfl) ?_
  refine x_callV (as := [.int x1]) (o := 123) (ci := 11) (st := []) rfl okRX11_183 npX11_lengthOf ⟨Nat.le_of_ble_eq_true rfl, Nat.le_of_ble_eq_true rfl⟩ k123 (by decide) rfl (Nat.le_of_ble_eq_true rfl) (dk zX11_judgedOf 18 rfl) ?_
  refine hv2.mono ?_
  rintro _ m3 ⟨r4, rfl, hm3⟩
  show Ex E MX11_judgedOf Q 30 [(0, .ref 123), (1, .int x1), (2, .int x2), (3, .int x3), (4, .int x4), (5, .int x2), (6, .int v2), (7, .int ((-1)))] [.int r4] m3
  refine x_istoreG (l' := [(0, .ref 123), (1, .int x1), (2, .int x2), (3, .int x3), (4, .int x4), (5, .int x2), (6, .int v2), (7, .int ((-1))), (8, .int r4)]) [1, 2, 3, 4, 5, 6, 7, 8, 0] rfl (by decide) (dk zX11_judgedOf 19 rfl) ?_
  refine x_iconst (v := 0) (by decide) (dk zX11_judgedOf 20 rfl) ?_
  refine x_istoreG (l' := [(0, .ref 123), (1, .int x1), (2, .int x2), (3, .int x3), (4, .int x4), (5, .int x2), (6, .int v2), (7, .int ((-1))), (8, .int r4), (9, .int 0)]) [1, 2, 3, 4, 5, 6, 7, 8, 9, 0] rfl (by decide) (dk zX11_judgedOf 21 rfl) ?_
  exact hm3
set_option maxRecDepth 20000 in
set_option maxHeartbeats 2000000 in
theorem gX11_judgedOf_35 {E : EV} {Q : Po} {μ : Mem} {x1 : Int32} {x2 : Int32} {x3 : Int32} {x4 : Int32} {x5 : Int32} {x6 : Int32} {x7 : Int32} {x8 : Int32} {x9 : Int32} (h : ((x8 ≤ x9 → ((¬ x4 = 0 → ((¬ x4 = 1 → ((¬ x4 = 2 → ((¬ x4 = 3 → Q (some (.int (μ.1 123 16))) μ) ∧ (x4 = 3 → Q (some (.int (μ.1 134 0))) μ))) ∧ (x4 = 2 → Q (some (.int x6)) μ))) ∧ (x4 = 1 → Q (some (.int x5)) μ))) ∧ (x4 = 0 → Q (some (.int x7)) μ))) ∧ (¬ x8 ≤ x9 → ((¬ x7 = ((-1)) → ((¬ x4 = 0 → ((¬ x4 = 1 → ((¬ x4 = 2 → ((¬ x4 = 3 → Q (some (.int (μ.1 123 16))) μ) ∧ (x4 = 3 → Q (some (.int (μ.1 134 0))) μ))) ∧ (x4 = 2 → Q (some (.int x6)) μ))) ∧ (x4 = 1 → Q (some (.int x5)) μ))) ∧ (x4 = 0 → Q (some (.int x7)) μ))) ∧ (x7 = ((-1)) → Sp E MX11_letterAt [.ref 123, .int x1, .int x9] μ (fun v m11 => ∃ r12 : Int32, v = some (.int r12) ∧ (((m11.1 134 0) ≤ 0 → Ex E MX11_judgedOf Q 92 [(0, .ref 123), (1, .int x1), (2, .int x2), (3, .int x3), (4, .int x4), (5, .int x5), (6, .int x6), (7, .int x7), (8, .int x8), (9, .int x9), (10, .int r12)] [.int 0] m11) ∧ (¬ (m11.1 134 0) ≤ 0 → vp_in ((m11.1 134 0) - 1) 120 ∧ (Sp E MX11_back [.int r12] m11 (fun v m15 => ∃ r16 : Int32, v = some (.int r16) ∧ ((¬ (m11.1 133 (((m11.1 134 0) - 1).toNatClampNeg)) = r16 → Ex E MX11_judgedOf Q 92 [(0, .ref 123), (1, .int x1), (2, .int x2), (3, .int x3), (4, .int x4), (5, .int x5), (6, .int x6), (7, .int x7), (8, .int x8), (9, .int x9), (10, .int r12)] [.int 0] m15) ∧ ((m11.1 133 (((m11.1 134 0) - 1).toNatClampNeg)) = r16 → Ex E MX11_judgedOf Q 92 [(0, .ref 123), (1, .int x1), (2, .int x2), (3, .int x3), (4, .int x4), (5, .int x5), (6, .int x6), (7, .int x7), (8, .int x8), (9, .int x9), (10, .int r12)] [.int 1] m15)))))))))))) : Ex E MX11_judgedOf Q 35 [(0, .ref 123), (1, .int x1), (2, .int x2), (3, .int x3), (4, .int x4), (5, .int x5), (6, .int x6), (7, .int x7), (8, .int x8), (9, .int x9)] [] μ := by
  refine x_iload 9 rfl (dk zX11_judgedOf 22 rfl) ?_
  refine x_iload 8 rfl (dk zX11_judgedOf 23 rfl) ?_
  refine x_icmp_ge (tgt := 210) (by decide) (dk zX11_judgedOf 24 rfl) (fun c1 => ?_) (fun c1 => ?_)
  · have hc1t := h.1 c1
    refine x_iload 4 rfl (dk zX11_judgedOf 113 rfl) ?_
    refine x_if_ne (tgt := 220) (by decide) (dk zX11_judgedOf 114 rfl) (fun c2 => ?_) (fun c2 => ?_)
    · have hc2t := hc1t.1 c2
      refine x_iload 4 rfl (dk zX11_judgedOf 117 rfl) ?_
      refine x_iconst (v := 1) (by decide) (dk zX11_judgedOf 118 rfl) ?_
      refine x_icmp_ne (tgt := 231) (by decide) (dk zX11_judgedOf 119 rfl) (fun c3 => ?_) (fun c3 => ?_)
      · have hc3t := hc2t.1 c3
        refine x_iload 4 rfl (dk zX11_judgedOf 122 rfl) ?_
        refine x_iconst (v := 2) (by decide) (dk zX11_judgedOf 123 rfl) ?_
        refine x_icmp_ne (tgt := 242) (by decide) (dk zX11_judgedOf 124 rfl) (fun c4 => ?_) (fun c4 => ?_)
        · have hc4t := hc3t.1 c4
          refine x_iload 4 rfl (dk zX11_judgedOf 127 rfl) ?_
          refine x_iconst (v := 3) (by decide) (dk zX11_judgedOf 128 rfl) ?_
          refine x_icmp_ne (tgt := 257) (by decide) (dk zX11_judgedOf 129 rfl) (fun c5 => ?_) (fun c5 => ?_)
          · have hc5t := hc4t.1 c5
            refine x_aload_n 0 rfl rfl (dk zX11_judgedOf 135 rfl) ?_
            refine gf11_16 rfl k123 (dk zX11_judgedOf 136 rfl) ?_
            exact x_iret (ty := .int) rfl rfl (dk zX11_judgedOf 137 rfl) hc5t
          · have hc5f := hc4t.2 c5
            refine x_aload_n 0 rfl rfl (dk zX11_judgedOf 130 rfl) ?_
            refine gf11_15 (r := 134) rfl k123 r123_15 (dk zX11_judgedOf 131 rfl) ?_
            refine x_iconst (v := 0) (by decide) (dk zX11_judgedOf 132 rfl) ?_
            refine y_iald (j := 0) k134 l134 (by unfold vp_in; decide) (by decide) (dk zX11_judgedOf 133 rfl) ?_
            refine x_goto (tgt := 261) (by decide) (dk zX11_judgedOf 134 rfl) ?_
            exact x_iret (ty := .int) rfl rfl (dk zX11_judgedOf 137 rfl) hc5f
        · have hc4f := hc3t.2 c4
          refine x_iload 6 rfl (dk zX11_judgedOf 125 rfl) ?_
          refine x_goto (tgt := 261) (by decide) (dk zX11_judgedOf 126 rfl) ?_
          exact x_iret (ty := .int) rfl rfl (dk zX11_judgedOf 137 rfl) hc4f
      · have hc3f := hc2t.2 c3
        refine x_iload 5 rfl (dk zX11_judgedOf 120 rfl) ?_
        refine x_goto (tgt := 261) (by decide) (dk zX11_judgedOf 121 rfl) ?_
        exact x_iret (ty := .int) rfl rfl (dk zX11_judgedOf 137 rfl) hc3f
    · have hc2f := hc1t.2 c2
      refine x_iload 7 rfl (dk zX11_judgedOf 115 rfl) ?_
      refine x_goto (tgt := 261) (by decide) (dk zX11_judgedOf 116 rfl) ?_
      exact x_iret (ty := .int) rfl rfl (dk zX11_judgedOf 137 rfl) hc2f
  · have hc1f := h.2 c1
    refine x_iload 7 rfl (dk zX11_judgedOf 25 rfl) ?_
    refine x_iconst (v := -1) (by decide) (dk zX11_judgedOf 26 rfl) ?_
    refine x_icmp_ne (tgt := 210) (by decide) (dk zX11_judgedOf 27 rfl) (fun c6 => ?_) (fun c6 => ?_)
    · have hc6t := hc1f.1 c6
      refine x_iload 4 rfl (dk zX11_judgedOf 113 rfl) ?_
      refine x_if_ne (tgt := 220) (by decide) (dk zX11_judgedOf 114 rfl) (fun c7 => ?_) (fun c7 => ?_)
      · have hc7t := hc6t.1 c7
        refine x_iload 4 rfl (dk zX11_judgedOf 117 rfl) ?_
        refine x_iconst (v := 1) (by decide) (dk zX11_judgedOf 118 rfl) ?_
        refine x_icmp_ne (tgt := 231) (by decide) (dk zX11_judgedOf 119 rfl) (fun c8 => ?_) (fun c8 => ?_)
        · have hc8t := hc7t.1 c8
          refine x_iload 4 rfl (dk zX11_judgedOf 122 rfl) ?_
          refine x_iconst (v := 2) (by decide) (dk zX11_judgedOf 123 rfl) ?_
          refine x_icmp_ne (tgt := 242) (by decide) (dk zX11_judgedOf 124 rfl) (fun c9 => ?_) (fun c9 => ?_)
          · have hc9t := hc8t.1 c9
            refine x_iload 4 rfl (dk zX11_judgedOf 127 rfl) ?_
            refine x_iconst (v := 3) (by decide) (dk zX11_judgedOf 128 rfl) ?_
            refine x_icmp_ne (tgt := 257) (by decide) (dk zX11_judgedOf 129 rfl) (fun c10 => ?_) (fun c10 => ?_)
            · have hc10t := hc9t.1 c10
              refine x_aload_n 0 rfl rfl (dk zX11_judgedOf 135 rfl) ?_
              refine gf11_16 rfl k123 (dk zX11_judgedOf 136 rfl) ?_
              exact x_iret (ty := .int) rfl rfl (dk zX11_judgedOf 137 rfl) hc10t
            · have hc10f := hc9t.2 c10
              refine x_aload_n 0 rfl rfl (dk zX11_judgedOf 130 rfl) ?_
              refine gf11_15 (r := 134) rfl k123 r123_15 (dk zX11_judgedOf 131 rfl) ?_
              refine x_iconst (v := 0) (by decide) (dk zX11_judgedOf 132 rfl) ?_
              refine y_iald (j := 0) k134 l134 (by unfold vp_in; decide) (by decide) (dk zX11_judgedOf 133 rfl) ?_
              refine x_goto (tgt := 261) (by decide) (dk zX11_judgedOf 134 rfl) ?_
              exact x_iret (ty := .int) rfl rfl (dk zX11_judgedOf 137 rfl) hc10f
          · have hc9f := hc8t.2 c9
            refine x_iload 6 rfl (dk zX11_judgedOf 125 rfl) ?_
            refine x_goto (tgt := 261) (by decide) (dk zX11_judgedOf 126 rfl) ?_
            exact x_iret (ty := .int) rfl rfl (dk zX11_judgedOf 137 rfl) hc9f
        · have hc8f := hc7t.2 c8
          refine x_iload 5 rfl (dk zX11_judgedOf 120 rfl) ?_
          refine x_goto (tgt := 261) (by decide) (dk zX11_judgedOf 121 rfl) ?_
          exact x_iret (ty := .int) rfl rfl (dk zX11_judgedOf 137 rfl) hc8f
      · have hc7f := hc6t.2 c7
        refine x_iload 7 rfl (dk zX11_judgedOf 115 rfl) ?_
        refine x_goto (tgt := 261) (by decide) (dk zX11_judgedOf 116 rfl) ?_
        exact x_iret (ty := .int) rfl rfl (dk zX11_judgedOf 137 rfl) hc7f
    · have hc6f := hc1f.2 c6
      refine x_aload_n 0 rfl rfl (dk zX11_judgedOf 28 rfl) ?_
      refine x_iload_n 1 rfl rfl (dk zX11_judgedOf 29 rfl) ?_
      refine x_iload 9 rfl (dk zX11_judgedOf 30 rfl) ?_
      refine x_callV (as := [.int x1, .int x9]) (o := 123) (ci := 11) (st := []) rfl okRX11_186 npX11_letterAt ⟨Nat.le_of_ble_eq_true rfl, Nat.le_of_ble_eq_true rfl⟩ k123 (by decide) rfl (Nat.le_of_ble_eq_true rfl) (dk zX11_judgedOf 31 rfl) ?_
      refine hc6f.mono ?_
      rintro _ m11 ⟨r12, rfl, hm11⟩
      show Ex E MX11_judgedOf Q 55 [(0, .ref 123), (1, .int x1), (2, .int x2), (3, .int x3), (4, .int x4), (5, .int x5), (6, .int x6), (7, .int x7), (8, .int x8), (9, .int x9)] [.int r12] m11
      refine x_istoreG (l' := [(0, .ref 123), (1, .int x1), (2, .int x2), (3, .int x3), (4, .int x4), (5, .int x5), (6, .int x6), (7, .int x7), (8, .int x8), (9, .int x9), (10, .int r12)]) [1, 2, 3, 4, 5, 6, 7, 8, 9, 10, 0] rfl (by decide) (dk zX11_judgedOf 32 rfl) ?_
      refine x_aload_n 0 rfl rfl (dk zX11_judgedOf 33 rfl) ?_
      refine gf11_15 (r := 134) rfl k123 r123_15 (dk zX11_judgedOf 34 rfl) ?_
      refine x_iconst (v := 0) (by decide) (dk zX11_judgedOf 35 rfl) ?_
      refine y_iald (j := 0) k134 l134 (by unfold vp_in; decide) (by decide) (dk zX11_judgedOf 36 rfl) ?_
      refine x_if_le (tgt := 91) (by decide) (dk zX11_judgedOf 37 rfl) (fun c13 => ?_) (fun c13 => ?_)
      · have hc13t := hm11.1 c13
        refine x_iconst (v := 0) (by decide) (dk zX11_judgedOf 52 rfl) ?_
        exact hc13t
      · have hc13f := hm11.2 c13
        refine x_aload_n 0 rfl rfl (dk zX11_judgedOf 38 rfl) ?_
        refine gf11_14 (r := 133) rfl k123 r123_14 (dk zX11_judgedOf 39 rfl) ?_
        refine x_aload_n 0 rfl rfl (dk zX11_judgedOf 40 rfl) ?_
        refine gf11_15 (r := 134) rfl k123 r123_15 (dk zX11_judgedOf 41 rfl) ?_
        refine x_iconst (v := 0) (by decide) (dk zX11_judgedOf 42 rfl) ?_
        refine y_iald (j := 0) k134 l134 (by unfold vp_in; decide) (by decide) (dk zX11_judgedOf 43 rfl) ?_
        refine x_iconst (v := 1) (by decide) (dk zX11_judgedOf 44 rfl) ?_
        refine x_isub (dk zX11_judgedOf 45 rfl) ?_
        have b14 := hc13f.1
        have hb14 := hc13f.2
        refine y_iald (j := ((m11.1 134 0) - 1).toNatClampNeg) k133 l133 b14 rfl (dk zX11_judgedOf 46 rfl) ?_
        refine x_iload 10 rfl (dk zX11_judgedOf 47 rfl) ?_
        refine x_callS (as := [.int r12]) (st := [.int (m11.1 133 (((m11.1 134 0) - 1).toNatClampNeg))]) rfl okRX11_177 npX11_back ⟨Nat.le_of_ble_eq_true rfl, Nat.le_of_ble_eq_true rfl⟩ (Nat.le_of_ble_eq_true rfl) (dk zX11_judgedOf 48 rfl) ?_
        refine hb14.mono ?_
        rintro _ m15 ⟨r16, rfl, hm15⟩
        show Ex E MX11_judgedOf Q 84 [(0, .ref 123), (1, .int x1), (2, .int x2), (3, .int x3), (4, .int x4), (5, .int x5), (6, .int x6), (7, .int x7), (8, .int x8), (9, .int x9), (10, .int r12)] [.int r16, .int (m11.1 133 (((m11.1 134 0) - 1).toNatClampNeg))] m15
        refine x_icmp_ne (tgt := 91) (by decide) (dk zX11_judgedOf 49 rfl) (fun c17 => ?_) (fun c17 => ?_)
        · have hc17t := hm15.1 c17
          refine x_iconst (v := 0) (by decide) (dk zX11_judgedOf 52 rfl) ?_
          exact hc17t
        · have hc17f := hm15.2 c17
          refine x_iconst (v := 1) (by decide) (dk zX11_judgedOf 50 rfl) ?_
          refine x_goto (tgt := 92) (by decide) (dk zX11_judgedOf 51 rfl) ?_
          exact hc17f
set_option maxRecDepth 20000 in
set_option maxHeartbeats 2000000 in
theorem gX11_judgedOf_92 {E : EV} {Q : Po} {μ : Mem} {x1 : Int32} {x2 : Int32} {x3 : Int32} {x4 : Int32} {x5 : Int32} {x6 : Int32} {x7 : Int32} {x8 : Int32} {x9 : Int32} {x10 : Int32} {s0 : Int32} (h : vp_in (x10 / 2) 9 ∧ ((((μ.1 132 ((x10 / 2).toNatClampNeg)) = 0 → Ex E MX11_judgedOf Q 129 [(0, .ref 123), (1, .int x1), (2, .int x2), (3, .int x3), (4, .int x4), (5, .int x5), (6, .int x6), (7, .int x7), (8, .int x8), (9, .int x9), (10, .int x10), (11, .int s0)] [.int 1] μ) ∧ (¬ (μ.1 132 ((x10 / 2).toNatClampNeg)) = 0 → ((¬ s0 = 0 → Ex E MX11_judgedOf Q 129 [(0, .ref 123), (1, .int x1), (2, .int x2), (3, .int x3), (4, .int x4), (5, .int x5), (6, .int x6), (7, .int x7), (8, .int x8), (9, .int x9), (10, .int x10), (11, .int s0)] [.int 1] μ) ∧ (s0 = 0 → (((μ.1 123 12) ≤ (μ.1 134 0) → Ex E MX11_judgedOf Q 129 [(0, .ref 123), (1, .int x1), (2, .int x2), (3, .int x3), (4, .int x4), (5, .int x5), (6, .int x6), (7, .int x7), (8, .int x8), (9, .int x9), (10, .int x10), (11, .int s0)] [.int 0] μ) ∧ (¬ (μ.1 123 12) ≤ (μ.1 134 0) → Ex E MX11_judgedOf Q 129 [(0, .ref 123), (1, .int x1), (2, .int x2), (3, .int x3), (4, .int x4), (5, .int x5), (6, .int x6), (7, .int x7), (8, .int x8), (9, .int x9), (10, .int x10), (11, .int s0)] [.int 1] μ)))))))) : Ex E MX11_judgedOf Q 92 [(0, .ref 123), (1, .int x1), (2, .int x2), (3, .int x3), (4, .int x4), (5, .int x5), (6, .int x6), (7, .int x7), (8, .int x8), (9, .int x9), (10, .int x10)] [.int s0] μ := by
  refine x_istoreG (l' := [(0, .ref 123), (1, .int x1), (2, .int x2), (3, .int x3), (4, .int x4), (5, .int x5), (6, .int x6), (7, .int x7), (8, .int x8), (9, .int x9), (10, .int x10), (11, .int s0)]) [1, 2, 3, 4, 5, 6, 7, 8, 9, 10, 11, 0] rfl (by decide) (dk zX11_judgedOf 53 rfl) ?_
  refine x_aload_n 0 rfl rfl (dk zX11_judgedOf 54 rfl) ?_
  refine gf11_11 (r := 132) rfl k123 r123_11 (dk zX11_judgedOf 55 rfl) ?_
  refine x_iload 10 rfl (dk zX11_judgedOf 56 rfl) ?_
  refine x_iconst (v := 2) (by decide) (dk zX11_judgedOf 57 rfl) ?_
  refine x_idiv (by decide) (dk zX11_judgedOf 58 rfl) ?_
  have b1 := h.1
  have hb1 := h.2
  refine y_zald (j := (x10 / 2).toNatClampNeg) k132 l132 b1 rfl (dk zX11_judgedOf 59 rfl) ?_
  refine x_if_eq (tgt := 124) (by decide) (dk zX11_judgedOf 60 rfl) (fun c2 => ?_) (fun c2 => ?_)
  · have hc2t := hb1.1 c2
    refine x_iconst (v := 1) (by decide) (dk zX11_judgedOf 70 rfl) ?_
    refine x_goto (tgt := 129) (by decide) (dk zX11_judgedOf 71 rfl) ?_
    exact hc2t
  · have hc2f := hb1.2 c2
    refine x_iload 11 rfl (dk zX11_judgedOf 61 rfl) ?_
    refine x_if_ne (tgt := 124) (by decide) (dk zX11_judgedOf 62 rfl) (fun c3 => ?_) (fun c3 => ?_)
    · have hc3t := hc2f.1 c3
      refine x_iconst (v := 1) (by decide) (dk zX11_judgedOf 70 rfl) ?_
      refine x_goto (tgt := 129) (by decide) (dk zX11_judgedOf 71 rfl) ?_
      exact hc3t
    · have hc3f := hc2f.2 c3
      refine x_aload_n 0 rfl rfl (dk zX11_judgedOf 63 rfl) ?_
      refine gf11_15 (r := 134) rfl k123 r123_15 (dk zX11_judgedOf 64 rfl) ?_
      refine x_iconst (v := 0) (by decide) (dk zX11_judgedOf 65 rfl) ?_
      refine y_iald (j := 0) k134 l134 (by unfold vp_in; decide) (by decide) (dk zX11_judgedOf 66 rfl) ?_
      refine x_aload_n 0 rfl rfl (dk zX11_judgedOf 67 rfl) ?_
      refine gf11_12 rfl k123 (dk zX11_judgedOf 68 rfl) ?_
      refine x_icmp_ge (tgt := 128) (by decide) (dk zX11_judgedOf 69 rfl) (fun c4 => ?_) (fun c4 => ?_)
      · have hc4t := hc3f.1 c4
        refine x_iconst (v := 0) (by decide) (dk zX11_judgedOf 72 rfl) ?_
        exact hc4t
      · have hc4f := hc3f.2 c4
        refine x_iconst (v := 1) (by decide) (dk zX11_judgedOf 70 rfl) ?_
        refine x_goto (tgt := 129) (by decide) (dk zX11_judgedOf 71 rfl) ?_
        exact hc4f
set_option maxRecDepth 20000 in
set_option maxHeartbeats 2000000 in
theorem gX11_judgedOf_129 {E : EV} {Q : Po} {μ : Mem} {x1 : Int32} {x2 : Int32} {x3 : Int32} {x4 : Int32} {x5 : Int32} {x6 : Int32} {x7 : Int32} {x8 : Int32} {x9 : Int32} {x10 : Int32} {x11 : Int32} {s0 : Int32} (h : Sp E MX11_start [.ref 123, .int x10] μ (fun v m1 => ∃ r2 : Int32, v = some (.int r2) ∧ ((¬ r2 = x5 → ∀ v4 : Int32, v4 = x9 + 1 → Ex E MX11_judgedOf Q 35 [(0, .ref 123), (1, .int x1), (2, .int x2), (3, .int x3), (4, .int x4), (5, .int x5), (6, .int x6), (7, .int x9), (8, .int x8), (9, .int v4)] [] m1) ∧ (r2 = x5 → Sp E MX11_isShut [.ref 123, .int (x10 / 2)] m1 (fun v m5 => ∃ r6 : Int32, v = some (.int r6) ∧ ((¬ r6 = 0 → ∀ v8 : Int32, v8 = x9 + 1 → Ex E MX11_judgedOf Q 35 [(0, .ref 123), (1, .int x1), (2, .int x2), (3, .int x3), (4, .int x4), (5, .int x5), (6, .int x6), (7, .int x9), (8, .int x8), (9, .int v8)] [] m5) ∧ (r6 = 0 → ((¬ s0 = 0 → Sp E MX11_stamp [.ref 123, .int 0, .int x10] m5 (fun v m10 => v = none ∧ Sp E MX11_end [.ref 123, .int x10] m10 (fun v m11 => ∃ r12 : Int32, v = some (.int r12) ∧ (((m11.1 134 0) ≤ x6 → ∀ v14 : Int32, v14 = x9 + 1 → Ex E MX11_judgedOf Q 35 [(0, .ref 123), (1, .int x1), (2, .int x2), (3, .int x3), (4, .int x4), (5, .int r12), (6, .int x6), (7, .int x7), (8, .int x8), (9, .int v14)] [] m11) ∧ (¬ (m11.1 134 0) ≤ x6 → ∀ v15 : Int32, v15 = m11.1 134 0 → ∀ v16 : Int32, v16 = x9 + 1 → Ex E MX11_judgedOf Q 35 [(0, .ref 123), (1, .int x1), (2, .int x2), (3, .int x3), (4, .int x4), (5, .int r12), (6, .int v15), (7, .int x7), (8, .int x8), (9, .int v16)] [] m11))))) ∧ (s0 = 0 → ∀ v17 : Int32, v17 = x9 + 1 → Ex E MX11_judgedOf Q 35 [(0, .ref 123), (1, .int x1), (2, .int x2), (3, .int x3), (4, .int x4), (5, .int x5), (6, .int x6), (7, .int x9), (8, .int x8), (9, .int v17)] [] m5))))))))) : Ex E MX11_judgedOf Q 129 [(0, .ref 123), (1, .int x1), (2, .int x2), (3, .int x3), (4, .int x4), (5, .int x5), (6, .int x6), (7, .int x7), (8, .int x8), (9, .int x9), (10, .int x10), (11, .int x11)] [.int s0] μ := by
  refine x_istoreG (l' := [(0, .ref 123), (1, .int x1), (2, .int x2), (3, .int x3), (4, .int x4), (5, .int x5), (6, .int x6), (7, .int x7), (8, .int x8), (9, .int x9), (10, .int x10), (11, .int x11), (12, .int s0)]) [1, 2, 3, 4, 5, 6, 7, 8, 9, 10, 11, 12, 0] rfl (by decide) (dk zX11_judgedOf 73 rfl) ?_
  refine x_aload_n 0 rfl rfl (dk zX11_judgedOf 74 rfl) ?_
  refine x_iload 10 rfl (dk zX11_judgedOf 75 rfl) ?_
  refine x_callV (as := [.int x10]) (o := 123) (ci := 11) (st := []) rfl okRX11_166 npX11_start ⟨Nat.le_of_ble_eq_true rfl, Nat.le_of_ble_eq_true rfl⟩ k123 (by decide) rfl (Nat.le_of_ble_eq_true rfl) (dk zX11_judgedOf 76 rfl) ?_
  refine h.mono ?_
  rintro _ m1 ⟨r2, rfl, hm1⟩
  show Ex E MX11_judgedOf Q 137 [(0, .ref 123), (1, .int x1), (2, .int x2), (3, .int x3), (4, .int x4), (5, .int x5), (6, .int x6), (7, .int x7), (8, .int x8), (9, .int x9), (10, .int x10), (11, .int x11), (12, .int s0)] [.int r2] m1
  refine x_iload 5 rfl (dk zX11_judgedOf 77 rfl) ?_
  refine x_icmp_ne (tgt := 158) (by decide) (dk zX11_judgedOf 78 rfl) (fun c3 => ?_) (fun c3 => ?_)
  · have hc3t := hm1.1 c3
    refine x_iload 9 rfl (dk zX11_judgedOf 87 rfl) ?_
    refine x_istoreG (l' := [(0, .ref 123), (1, .int x1), (2, .int x2), (3, .int x3), (4, .int x4), (5, .int x5), (6, .int x6), (7, .int x9), (8, .int x8), (9, .int x9), (10, .int x10), (11, .int x11), (12, .int s0)]) [1, 2, 3, 4, 5, 6, 7, 0, 8, 9, 10, 11, 12] rfl (by decide) (dk zX11_judgedOf 88 rfl) ?_
    refine x_goto (tgt := 204) (by decide) (dk zX11_judgedOf 89 rfl) ?_
    obtain ⟨v4, ev4⟩ : ∃ y : Int32, y = x9 + 1 := ⟨_, rfl⟩
    have hv4 := hc3t v4 ev4
    refine x_iinc (v := v4) (l' := [(0, .ref 123), (1, .int x1), (2, .int x2), (3, .int x3), (4, .int x4), (5, .int x5), (6, .int x6), (7, .int x9), (8, .int x8), (9, .int v4), (10, .int x10), (11, .int x11), (12, .int s0)]) 9 rfl (by rw [ev4]; rfl) [1, 2, 3, 4, 5, 6, 7, 8, 9, 0, 10, 11, 12] rfl (by decide) (dk zX11_judgedOf 111 rfl) ?_
    refine x_goto (tgt := 35) (by decide) (dk zX11_judgedOf 112 rfl) ?_
    exact x_sub [0, 1, 2, 3, 4, 5, 6, 7, 8, 9] rfl hv4
  · have hc3f := hm1.2 c3
    refine x_aload_n 0 rfl rfl (dk zX11_judgedOf 79 rfl) ?_
    refine x_iload 10 rfl (dk zX11_judgedOf 80 rfl) ?_
    refine x_iconst (v := 2) (by decide) (dk zX11_judgedOf 81 rfl) ?_
    refine x_idiv (by decide) (dk zX11_judgedOf 82 rfl) ?_
    refine x_callV (as := [.int (x10 / 2)]) (o := 123) (ci := 11) (st := []) rfl okRX11_172 npX11_isShut ⟨Nat.le_of_ble_eq_true rfl, Nat.le_of_ble_eq_true rfl⟩ k123 (by decide) rfl (Nat.le_of_ble_eq_true rfl) (dk zX11_judgedOf 83 rfl) ?_
    refine hc3f.mono ?_
    rintro _ m5 ⟨r6, rfl, hm5⟩
    show Ex E MX11_judgedOf Q 150 [(0, .ref 123), (1, .int x1), (2, .int x2), (3, .int x3), (4, .int x4), (5, .int x5), (6, .int x6), (7, .int x7), (8, .int x8), (9, .int x9), (10, .int x10), (11, .int x11), (12, .int s0)] [.int r6] m5
    refine x_if_ne (tgt := 158) (by decide) (dk zX11_judgedOf 84 rfl) (fun c7 => ?_) (fun c7 => ?_)
    · have hc7t := hm5.1 c7
      refine x_iload 9 rfl (dk zX11_judgedOf 87 rfl) ?_
      refine x_istoreG (l' := [(0, .ref 123), (1, .int x1), (2, .int x2), (3, .int x3), (4, .int x4), (5, .int x5), (6, .int x6), (7, .int x9), (8, .int x8), (9, .int x9), (10, .int x10), (11, .int x11), (12, .int s0)]) [1, 2, 3, 4, 5, 6, 7, 0, 8, 9, 10, 11, 12] rfl (by decide) (dk zX11_judgedOf 88 rfl) ?_
      refine x_goto (tgt := 204) (by decide) (dk zX11_judgedOf 89 rfl) ?_
      obtain ⟨v8, ev8⟩ : ∃ y : Int32, y = x9 + 1 := ⟨_, rfl⟩
      have hv8 := hc7t v8 ev8
      refine x_iinc (v := v8) (l' := [(0, .ref 123), (1, .int x1), (2, .int x2), (3, .int x3), (4, .int x4), (5, .int x5), (6, .int x6), (7, .int x9), (8, .int x8), (9, .int v8), (10, .int x10), (11, .int x11), (12, .int s0)]) 9 rfl (by rw [ev8]; rfl) [1, 2, 3, 4, 5, 6, 7, 8, 9, 0, 10, 11, 12] rfl (by decide) (dk zX11_judgedOf 111 rfl) ?_
      refine x_goto (tgt := 35) (by decide) (dk zX11_judgedOf 112 rfl) ?_
      exact x_sub [0, 1, 2, 3, 4, 5, 6, 7, 8, 9] rfl hv8
    · have hc7f := hm5.2 c7
      refine x_iload 12 rfl (dk zX11_judgedOf 85 rfl) ?_
      refine x_if_ne (tgt := 165) (by decide) (dk zX11_judgedOf 86 rfl) (fun c9 => ?_) (fun c9 => ?_)
      · have hc9t := hc7f.1 c9
        refine x_aload_n 0 rfl rfl (dk zX11_judgedOf 90 rfl) ?_
        refine x_iconst (v := 0) (by decide) (dk zX11_judgedOf 91 rfl) ?_
        refine x_iload 10 rfl (dk zX11_judgedOf 92 rfl) ?_
        refine x_callV (as := [.int 0, .int x10]) (o := 123) (ci := 11) (st := []) rfl okRX11_189 npX11_stamp ⟨Nat.le_of_ble_eq_true rfl, Nat.le_of_ble_eq_true rfl⟩ k123 (by decide) rfl (Nat.le_of_ble_eq_true rfl) (dk zX11_judgedOf 93 rfl) ?_
        refine hc9t.mono ?_
        rintro _ m10 ⟨rfl, hm10⟩
        show Ex E MX11_judgedOf Q 172 [(0, .ref 123), (1, .int x1), (2, .int x2), (3, .int x3), (4, .int x4), (5, .int x5), (6, .int x6), (7, .int x7), (8, .int x8), (9, .int x9), (10, .int x10), (11, .int x11), (12, .int s0)] [] m10
        refine x_aload_n 0 rfl rfl (dk zX11_judgedOf 94 rfl) ?_
        refine x_iload 10 rfl (dk zX11_judgedOf 95 rfl) ?_
        refine x_callV (as := [.int x10]) (o := 123) (ci := 11) (st := []) rfl okRX11_202 npX11_end ⟨Nat.le_of_ble_eq_true rfl, Nat.le_of_ble_eq_true rfl⟩ k123 (by decide) rfl (Nat.le_of_ble_eq_true rfl) (dk zX11_judgedOf 96 rfl) ?_
        refine hm10.mono ?_
        rintro _ m11 ⟨r12, rfl, hm11⟩
        show Ex E MX11_judgedOf Q 178 [(0, .ref 123), (1, .int x1), (2, .int x2), (3, .int x3), (4, .int x4), (5, .int x5), (6, .int x6), (7, .int x7), (8, .int x8), (9, .int x9), (10, .int x10), (11, .int x11), (12, .int s0)] [.int r12] m11
        refine x_istoreG (l' := [(0, .ref 123), (1, .int x1), (2, .int x2), (3, .int x3), (4, .int x4), (5, .int r12), (6, .int x6), (7, .int x7), (8, .int x8), (9, .int x9), (10, .int x10), (11, .int x11), (12, .int s0)]) [1, 2, 3, 4, 5, 0, 6, 7, 8, 9, 10, 11, 12] rfl (by decide) (dk zX11_judgedOf 97 rfl) ?_
        refine x_aload_n 0 rfl rfl (dk zX11_judgedOf 98 rfl) ?_
        refine gf11_15 (r := 134) rfl k123 r123_15 (dk zX11_judgedOf 99 rfl) ?_
        refine x_iconst (v := 0) (by decide) (dk zX11_judgedOf 100 rfl) ?_
        refine y_iald (j := 0) k134 l134 (by unfold vp_in; decide) (by decide) (dk zX11_judgedOf 101 rfl) ?_
        refine x_iload 6 rfl (dk zX11_judgedOf 102 rfl) ?_
        refine x_icmp_le (tgt := 200) (by decide) (dk zX11_judgedOf 103 rfl) (fun c13 => ?_) (fun c13 => ?_)
        · have hc13t := hm11.1 c13
          refine x_iload 6 rfl (dk zX11_judgedOf 109 rfl) ?_
          refine x_istoreG (l' := [(0, .ref 123), (1, .int x1), (2, .int x2), (3, .int x3), (4, .int x4), (5, .int r12), (6, .int x6), (7, .int x7), (8, .int x8), (9, .int x9), (10, .int x10), (11, .int x11), (12, .int s0)]) [1, 2, 3, 4, 5, 6, 0, 7, 8, 9, 10, 11, 12] rfl (by decide) (dk zX11_judgedOf 110 rfl) ?_
          obtain ⟨v14, ev14⟩ : ∃ y : Int32, y = x9 + 1 := ⟨_, rfl⟩
          have hv14 := hc13t v14 ev14
          refine x_iinc (v := v14) (l' := [(0, .ref 123), (1, .int x1), (2, .int x2), (3, .int x3), (4, .int x4), (5, .int r12), (6, .int x6), (7, .int x7), (8, .int x8), (9, .int v14), (10, .int x10), (11, .int x11), (12, .int s0)]) 9 rfl (by rw [ev14]; rfl) [1, 2, 3, 4, 5, 6, 7, 8, 9, 0, 10, 11, 12] rfl (by decide) (dk zX11_judgedOf 111 rfl) ?_
          refine x_goto (tgt := 35) (by decide) (dk zX11_judgedOf 112 rfl) ?_
          exact x_sub [0, 1, 2, 3, 4, 5, 6, 7, 8, 9] rfl hv14
        · have hc13f := hm11.2 c13
          refine x_aload_n 0 rfl rfl (dk zX11_judgedOf 104 rfl) ?_
          refine gf11_15 (r := 134) rfl k123 r123_15 (dk zX11_judgedOf 105 rfl) ?_
          refine x_iconst (v := 0) (by decide) (dk zX11_judgedOf 106 rfl) ?_
          refine y_iald (j := 0) k134 l134 (by unfold vp_in; decide) (by decide) (dk zX11_judgedOf 107 rfl) ?_
          refine x_goto (tgt := 202) (by decide) (dk zX11_judgedOf 108 rfl) ?_
          refine x_topi (fun v15 ev15 => ?_)
          have hv15 := hc13f v15 ev15
          refine x_istoreG (l' := [(0, .ref 123), (1, .int x1), (2, .int x2), (3, .int x3), (4, .int x4), (5, .int r12), (6, .int v15), (7, .int x7), (8, .int x8), (9, .int x9), (10, .int x10), (11, .int x11), (12, .int s0)]) [1, 2, 3, 4, 5, 6, 0, 7, 8, 9, 10, 11, 12] rfl (by decide) (dk zX11_judgedOf 110 rfl) ?_
          obtain ⟨v16, ev16⟩ : ∃ y : Int32, y = x9 + 1 := ⟨_, rfl⟩
          have hv16 := hv15 v16 ev16
          refine x_iinc (v := v16) (l' := [(0, .ref 123), (1, .int x1), (2, .int x2), (3, .int x3), (4, .int x4), (5, .int r12), (6, .int v15), (7, .int x7), (8, .int x8), (9, .int v16), (10, .int x10), (11, .int x11), (12, .int s0)]) 9 rfl (by rw [ev16]; rfl) [1, 2, 3, 4, 5, 6, 7, 8, 9, 0, 10, 11, 12] rfl (by decide) (dk zX11_judgedOf 111 rfl) ?_
          refine x_goto (tgt := 35) (by decide) (dk zX11_judgedOf 112 rfl) ?_
          exact x_sub [0, 1, 2, 3, 4, 5, 6, 7, 8, 9] rfl hv16
      · have hc9f := hc7f.2 c9
        refine x_iload 9 rfl (dk zX11_judgedOf 87 rfl) ?_
        refine x_istoreG (l' := [(0, .ref 123), (1, .int x1), (2, .int x2), (3, .int x3), (4, .int x4), (5, .int x5), (6, .int x6), (7, .int x9), (8, .int x8), (9, .int x9), (10, .int x10), (11, .int x11), (12, .int s0)]) [1, 2, 3, 4, 5, 6, 7, 0, 8, 9, 10, 11, 12] rfl (by decide) (dk zX11_judgedOf 88 rfl) ?_
        refine x_goto (tgt := 204) (by decide) (dk zX11_judgedOf 89 rfl) ?_
        obtain ⟨v17, ev17⟩ : ∃ y : Int32, y = x9 + 1 := ⟨_, rfl⟩
        have hv17 := hc9f v17 ev17
        refine x_iinc (v := v17) (l' := [(0, .ref 123), (1, .int x1), (2, .int x2), (3, .int x3), (4, .int x4), (5, .int x5), (6, .int x6), (7, .int x9), (8, .int x8), (9, .int v17), (10, .int x10), (11, .int x11), (12, .int s0)]) 9 rfl (by rw [ev17]; rfl) [1, 2, 3, 4, 5, 6, 7, 8, 9, 0, 10, 11, 12] rfl (by decide) (dk zX11_judgedOf 111 rfl) ?_
        refine x_goto (tgt := 35) (by decide) (dk zX11_judgedOf 112 rfl) ?_
        exact x_sub [0, 1, 2, 3, 4, 5, 6, 7, 8, 9] rfl hv17
set_option maxRecDepth 20000 in
set_option maxHeartbeats 2000000 in
theorem gX11_judged_0 {E : EV} {Q : Po} {μ : Mem} {x1 : Int32} {x2 : Int32} {x3 : Int32} {x4 : Int32} (h : Sp E MX11_isWay [.int x1] μ (fun v m1 => ∃ r2 : Int32, v = some (.int r2) ∧ ((r2 = 0 → Q (some (.int ((-2)))) m1) ∧ (¬ r2 = 0 → Sp E MX11_isTown [.int x2] m1 (fun v m4 => ∃ r5 : Int32, v = some (.int r5) ∧ ((r5 = 0 → Q (some (.int ((-2)))) m4) ∧ (¬ r5 = 0 → Sp E MX11_isBegun [.ref 123, .int x3] m4 (fun v m7 => ∃ r8 : Int32, v = some (.int r8) ∧ ((r8 = 0 → Q (some (.int ((-2)))) m7) ∧ (¬ r8 = 0 → Sp E MX11_in [.long (Int32.toInt64 x4), .long 0, .long ((4))] m7 (fun v m10 => ∃ r11 : Int32, v = some (.int r11) ∧ ((r11 = 0 → Q (some (.int ((-2)))) m10) ∧ (¬ r11 = 0 → Sp E MX11_judgedOf [.ref 123, .int x1, .int x2, .int x3, .int x4] m10 (fun v m13 => ∃ r14 : Int32, v = some (.int r14) ∧ Q (some (.int r14)) m13)))))))))))))) : Ex E MX11_judged Q 0 [(0, .ref 123), (1, .int x1), (2, .int x2), (3, .int x3), (4, .int x4)] [] μ := by
  refine x_iload_n 1 rfl rfl (dk zX11_judged 0 rfl) ?_
  refine x_callS (as := [.int x1]) (st := []) rfl okRX11_193 npX11_isWay ⟨Nat.le_of_ble_eq_true rfl, Nat.le_of_ble_eq_true rfl⟩ (Nat.le_of_ble_eq_true rfl) (dk zX11_judged 1 rfl) ?_
  refine h.mono ?_
  rintro _ m1 ⟨r2, rfl, hm1⟩
  show Ex E MX11_judged Q 4 [(0, .ref 123), (1, .int x1), (2, .int x2), (3, .int x3), (4, .int x4)] [.int r2] m1
  refine x_if_eq (tgt := 47) (by decide) (dk zX11_judged 2 rfl) (fun c3 => ?_) (fun c3 => ?_)
  · have hc3t := hm1.1 c3
    refine x_bipush (v := -2) (by decide) (dk zX11_judged 23 rfl) ?_
    exact x_iret (ty := .int) rfl rfl (dk zX11_judged 24 rfl) hc3t
  · have hc3f := hm1.2 c3
    refine x_iload_n 2 rfl rfl (dk zX11_judged 3 rfl) ?_
    refine x_callS (as := [.int x2]) (st := []) rfl okRX11_148 npX11_isTown ⟨Nat.le_of_ble_eq_true rfl, Nat.le_of_ble_eq_true rfl⟩ (Nat.le_of_ble_eq_true rfl) (dk zX11_judged 4 rfl) ?_
    refine hc3f.mono ?_
    rintro _ m4 ⟨r5, rfl, hm4⟩
    show Ex E MX11_judged Q 11 [(0, .ref 123), (1, .int x1), (2, .int x2), (3, .int x3), (4, .int x4)] [.int r5] m4
    refine x_if_eq (tgt := 47) (by decide) (dk zX11_judged 5 rfl) (fun c6 => ?_) (fun c6 => ?_)
    · have hc6t := hm4.1 c6
      refine x_bipush (v := -2) (by decide) (dk zX11_judged 23 rfl) ?_
      exact x_iret (ty := .int) rfl rfl (dk zX11_judged 24 rfl) hc6t
    · have hc6f := hm4.2 c6
      refine x_aload_n 0 rfl rfl (dk zX11_judged 6 rfl) ?_
      refine x_iload_n 3 rfl rfl (dk zX11_judged 7 rfl) ?_
      refine x_callV (as := [.int x3]) (o := 123) (ci := 11) (st := []) rfl okRX11_205 npX11_isBegun ⟨Nat.le_of_ble_eq_true rfl, Nat.le_of_ble_eq_true rfl⟩ k123 (by decide) rfl (Nat.le_of_ble_eq_true rfl) (dk zX11_judged 8 rfl) ?_
      refine hc6f.mono ?_
      rintro _ m7 ⟨r8, rfl, hm7⟩
      show Ex E MX11_judged Q 19 [(0, .ref 123), (1, .int x1), (2, .int x2), (3, .int x3), (4, .int x4)] [.int r8] m7
      refine x_if_eq (tgt := 47) (by decide) (dk zX11_judged 9 rfl) (fun c9 => ?_) (fun c9 => ?_)
      · have hc9t := hm7.1 c9
        refine x_bipush (v := -2) (by decide) (dk zX11_judged 23 rfl) ?_
        exact x_iret (ty := .int) rfl rfl (dk zX11_judged 24 rfl) hc9t
      · have hc9f := hm7.2 c9
        refine x_iload 4 rfl (dk zX11_judged 10 rfl) ?_
        refine x_i2l (dk zX11_judged 11 rfl) ?_
        refine x_lconst (v := 0) (by decide) (dk zX11_judged 12 rfl) ?_
        refine x_ldc2 (v := 4) rfl wkRX11_208 (dk zX11_judged 13 rfl) ?_
        refine x_callS (as := [.long (Int32.toInt64 x4), .long 0, .long ((4))]) (st := []) rfl okRX11_86 npX11_in ⟨Nat.le_of_ble_eq_true rfl, Nat.le_of_ble_eq_true rfl⟩ (Nat.le_of_ble_eq_true rfl) (dk zX11_judged 14 rfl) ?_
        refine hc9f.mono ?_
        rintro _ m10 ⟨r11, rfl, hm10⟩
        show Ex E MX11_judged Q 32 [(0, .ref 123), (1, .int x1), (2, .int x2), (3, .int x3), (4, .int x4)] [.int r11] m10
        refine x_if_eq (tgt := 47) (by decide) (dk zX11_judged 15 rfl) (fun c12 => ?_) (fun c12 => ?_)
        · have hc12t := hm10.1 c12
          refine x_bipush (v := -2) (by decide) (dk zX11_judged 23 rfl) ?_
          exact x_iret (ty := .int) rfl rfl (dk zX11_judged 24 rfl) hc12t
        · have hc12f := hm10.2 c12
          refine x_aload_n 0 rfl rfl (dk zX11_judged 16 rfl) ?_
          refine x_iload_n 1 rfl rfl (dk zX11_judged 17 rfl) ?_
          refine x_iload_n 2 rfl rfl (dk zX11_judged 18 rfl) ?_
          refine x_iload_n 3 rfl rfl (dk zX11_judged 19 rfl) ?_
          refine x_iload 4 rfl (dk zX11_judged 20 rfl) ?_
          refine x_callV (as := [.int x1, .int x2, .int x3, .int x4]) (o := 123) (ci := 11) (st := []) rfl okRX11_210 npX11_judgedOf ⟨Nat.le_of_ble_eq_true rfl, Nat.le_of_ble_eq_true rfl⟩ k123 (by decide) rfl (Nat.le_of_ble_eq_true rfl) (dk zX11_judged 21 rfl) ?_
          refine hc12f.mono ?_
          rintro _ m13 ⟨r14, rfl, hm13⟩
          show Ex E MX11_judged Q 44 [(0, .ref 123), (1, .int x1), (2, .int x2), (3, .int x3), (4, .int x4)] [.int r14] m13
          refine x_goto (tgt := 49) (by decide) (dk zX11_judged 22 rfl) ?_
          exact x_iret (ty := .int) rfl rfl (dk zX11_judged 24 rfl) hm13
set_option maxRecDepth 20000 in
set_option maxHeartbeats 2000000 in
theorem gX11_alike_0 {E : EV} {Q : Po} {μ : Mem}  (h : Ex E MX11_alike Q 2 [(0, .ref 123), (1, .int 0)] [] μ) : Ex E MX11_alike Q 0 [(0, .ref 123)] [] μ := by
  refine x_iconst (v := 0) (by decide) (dk zX11_alike 0 rfl) ?_
  refine x_istore_n (k := 1) (l' := [(0, .ref 123), (1, .int 0)]) [1, 0] rfl rfl (by decide) (dk zX11_alike 1 rfl) ?_
  exact h
set_option maxRecDepth 20000 in
set_option maxHeartbeats 2000000 in
theorem gX11_alike_2 {E : EV} {Q : Po} {μ : Mem} {x1 : Int32} (h : (((μ.1 134 0) ≤ x1 → Q (some (.int x1)) μ) ∧ (¬ (μ.1 134 0) ≤ x1 → (((μ.1 134 1) ≤ x1 → Q (some (.int x1)) μ) ∧ (¬ (μ.1 134 1) ≤ x1 → vp_in x1 120 ∧ (vp_in (60 + x1) 120 ∧ (((¬ (μ.1 133 x1.toNatClampNeg) = (μ.1 133 ((60 + x1).toNatClampNeg)) → Q (some (.int x1)) μ) ∧ ((μ.1 133 x1.toNatClampNeg) = (μ.1 133 ((60 + x1).toNatClampNeg)) → ∀ v6 : Int32, v6 = x1 + 1 → Ex E MX11_alike Q 2 [(0, .ref 123), (1, .int v6)] [] μ))))))))) : Ex E MX11_alike Q 2 [(0, .ref 123), (1, .int x1)] [] μ := by
  refine x_iload_n 1 rfl rfl (dk zX11_alike 2 rfl) ?_
  refine x_aload_n 0 rfl rfl (dk zX11_alike 3 rfl) ?_
  refine gf11_15 (r := 134) rfl k123 r123_15 (dk zX11_alike 4 rfl) ?_
  refine x_iconst (v := 0) (by decide) (dk zX11_alike 5 rfl) ?_
  refine y_iald (j := 0) k134 l134 (by unfold vp_in; decide) (by decide) (dk zX11_alike 6 rfl) ?_
  refine x_icmp_ge (tgt := 46) (by decide) (dk zX11_alike 7 rfl) (fun c1 => ?_) (fun c1 => ?_)
  · have hc1t := h.1 c1
    refine x_iload_n 1 rfl rfl (dk zX11_alike 27 rfl) ?_
    exact x_iret (ty := .int) rfl rfl (dk zX11_alike 28 rfl) hc1t
  · have hc1f := h.2 c1
    refine x_iload_n 1 rfl rfl (dk zX11_alike 8 rfl) ?_
    refine x_aload_n 0 rfl rfl (dk zX11_alike 9 rfl) ?_
    refine gf11_15 (r := 134) rfl k123 r123_15 (dk zX11_alike 10 rfl) ?_
    refine x_iconst (v := 1) (by decide) (dk zX11_alike 11 rfl) ?_
    refine y_iald (j := 1) k134 l134 (by unfold vp_in; decide) (by decide) (dk zX11_alike 12 rfl) ?_
    refine x_icmp_ge (tgt := 46) (by decide) (dk zX11_alike 13 rfl) (fun c2 => ?_) (fun c2 => ?_)
    · have hc2t := hc1f.1 c2
      refine x_iload_n 1 rfl rfl (dk zX11_alike 27 rfl) ?_
      exact x_iret (ty := .int) rfl rfl (dk zX11_alike 28 rfl) hc2t
    · have hc2f := hc1f.2 c2
      refine x_aload_n 0 rfl rfl (dk zX11_alike 14 rfl) ?_
      refine gf11_14 (r := 133) rfl k123 r123_14 (dk zX11_alike 15 rfl) ?_
      refine x_iload_n 1 rfl rfl (dk zX11_alike 16 rfl) ?_
      have b3 := hc2f.1
      have hb3 := hc2f.2
      refine y_iald (j := x1.toNatClampNeg) k133 l133 b3 rfl (dk zX11_alike 17 rfl) ?_
      refine x_aload_n 0 rfl rfl (dk zX11_alike 18 rfl) ?_
      refine gf11_14 (r := 133) rfl k123 r123_14 (dk zX11_alike 19 rfl) ?_
      refine x_bipush (v := 60) (by decide) (dk zX11_alike 20 rfl) ?_
      refine x_iload_n 1 rfl rfl (dk zX11_alike 21 rfl) ?_
      refine x_iadd (dk zX11_alike 22 rfl) ?_
      have b4 := hb3.1
      have hb4 := hb3.2
      refine y_iald (j := (60 + x1).toNatClampNeg) k133 l133 b4 rfl (dk zX11_alike 23 rfl) ?_
      refine x_icmp_ne (tgt := 46) (by decide) (dk zX11_alike 24 rfl) (fun c5 => ?_) (fun c5 => ?_)
      · have hc5t := hb4.1 c5
        refine x_iload_n 1 rfl rfl (dk zX11_alike 27 rfl) ?_
        exact x_iret (ty := .int) rfl rfl (dk zX11_alike 28 rfl) hc5t
      · have hc5f := hb4.2 c5
        obtain ⟨v6, ev6⟩ : ∃ y : Int32, y = x1 + 1 := ⟨_, rfl⟩
        have hv6 := hc5f v6 ev6
        refine x_iinc (v := v6) (l' := [(0, .ref 123), (1, .int v6)]) 1 rfl (by rw [ev6]; rfl) [1, 0] rfl (by decide) (dk zX11_alike 25 rfl) ?_
        refine x_goto (tgt := 2) (by decide) (dk zX11_alike 26 rfl) ?_
        exact hv6
set_option maxRecDepth 20000 in
set_option maxHeartbeats 2000000 in
theorem gX11_sameOf_0 {E : EV} {Q : Po} {μ : Mem} {x1 : Int32} {x2 : Int32} (h : Sp E MX11_findPaper [.ref 123, .int 0, .int x1] μ (fun v m1 => v = none ∧ Sp E MX11_findPaper [.ref 123, .int 1, .int x2] m1 (fun v m2 => v = none ∧ ((¬ (m2.1 134 0) = (m2.1 134 1) → Q (some (.int 0)) m2) ∧ ((m2.1 134 0) = (m2.1 134 1) → Sp E MX11_alike [.ref 123] m2 (fun v m4 => ∃ r5 : Int32, v = some (.int r5) ∧ ((¬ r5 = (m4.1 134 0) → Q (some (.int 0)) m4) ∧ (r5 = (m4.1 134 0) → Q (some (.int 1)) m4)))))))) : Ex E MX11_sameOf Q 0 [(0, .ref 123), (1, .int x1), (2, .int x2)] [] μ := by
  refine x_aload_n 0 rfl rfl (dk zX11_sameOf 0 rfl) ?_
  refine x_iconst (v := 0) (by decide) (dk zX11_sameOf 1 rfl) ?_
  refine x_iload_n 1 rfl rfl (dk zX11_sameOf 2 rfl) ?_
  refine x_callV (as := [.int 0, .int x1]) (o := 123) (ci := 11) (st := []) rfl okRX11_196 npX11_findPaper ⟨Nat.le_of_ble_eq_true rfl, Nat.le_of_ble_eq_true rfl⟩ k123 (by decide) rfl (Nat.le_of_ble_eq_true rfl) (dk zX11_sameOf 3 rfl) ?_
  refine h.mono ?_
  rintro _ m1 ⟨rfl, hm1⟩
  show Ex E MX11_sameOf Q 6 [(0, .ref 123), (1, .int x1), (2, .int x2)] [] m1
  refine x_aload_n 0 rfl rfl (dk zX11_sameOf 4 rfl) ?_
  refine x_iconst (v := 1) (by decide) (dk zX11_sameOf 5 rfl) ?_
  refine x_iload_n 2 rfl rfl (dk zX11_sameOf 6 rfl) ?_
  refine x_callV (as := [.int 1, .int x2]) (o := 123) (ci := 11) (st := []) rfl okRX11_196 npX11_findPaper ⟨Nat.le_of_ble_eq_true rfl, Nat.le_of_ble_eq_true rfl⟩ k123 (by decide) rfl (Nat.le_of_ble_eq_true rfl) (dk zX11_sameOf 7 rfl) ?_
  refine hm1.mono ?_
  rintro _ m2 ⟨rfl, hm2⟩
  show Ex E MX11_sameOf Q 12 [(0, .ref 123), (1, .int x1), (2, .int x2)] [] m2
  refine x_aload_n 0 rfl rfl (dk zX11_sameOf 8 rfl) ?_
  refine gf11_15 (r := 134) rfl k123 r123_15 (dk zX11_sameOf 9 rfl) ?_
  refine x_iconst (v := 0) (by decide) (dk zX11_sameOf 10 rfl) ?_
  refine y_iald (j := 0) k134 l134 (by unfold vp_in; decide) (by decide) (dk zX11_sameOf 11 rfl) ?_
  refine x_aload_n 0 rfl rfl (dk zX11_sameOf 12 rfl) ?_
  refine gf11_15 (r := 134) rfl k123 r123_15 (dk zX11_sameOf 13 rfl) ?_
  refine x_iconst (v := 1) (by decide) (dk zX11_sameOf 14 rfl) ?_
  refine y_iald (j := 1) k134 l134 (by unfold vp_in; decide) (by decide) (dk zX11_sameOf 15 rfl) ?_
  refine x_icmp_ne (tgt := 44) (by decide) (dk zX11_sameOf 16 rfl) (fun c3 => ?_) (fun c3 => ?_)
  · have hc3t := hm2.1 c3
    refine x_iconst (v := 0) (by decide) (dk zX11_sameOf 26 rfl) ?_
    exact x_iret (ty := .int) rfl rfl (dk zX11_sameOf 27 rfl) hc3t
  · have hc3f := hm2.2 c3
    refine x_aload_n 0 rfl rfl (dk zX11_sameOf 17 rfl) ?_
    refine x_callV (as := []) (o := 123) (ci := 11) (st := []) rfl okRX11_214 npX11_alike ⟨Nat.le_of_ble_eq_true rfl, Nat.le_of_ble_eq_true rfl⟩ k123 (by decide) rfl (Nat.le_of_ble_eq_true rfl) (dk zX11_sameOf 18 rfl) ?_
    refine hc3f.mono ?_
    rintro _ m4 ⟨r5, rfl, hm4⟩
    show Ex E MX11_sameOf Q 31 [(0, .ref 123), (1, .int x1), (2, .int x2)] [.int r5] m4
    refine x_aload_n 0 rfl rfl (dk zX11_sameOf 19 rfl) ?_
    refine gf11_15 (r := 134) rfl k123 r123_15 (dk zX11_sameOf 20 rfl) ?_
    refine x_iconst (v := 0) (by decide) (dk zX11_sameOf 21 rfl) ?_
    refine y_iald (j := 0) k134 l134 (by unfold vp_in; decide) (by decide) (dk zX11_sameOf 22 rfl) ?_
    refine x_icmp_ne (tgt := 44) (by decide) (dk zX11_sameOf 23 rfl) (fun c6 => ?_) (fun c6 => ?_)
    · have hc6t := hm4.1 c6
      refine x_iconst (v := 0) (by decide) (dk zX11_sameOf 26 rfl) ?_
      exact x_iret (ty := .int) rfl rfl (dk zX11_sameOf 27 rfl) hc6t
    · have hc6f := hm4.2 c6
      refine x_iconst (v := 1) (by decide) (dk zX11_sameOf 24 rfl) ?_
      refine x_goto (tgt := 45) (by decide) (dk zX11_sameOf 25 rfl) ?_
      exact x_iret (ty := .int) rfl rfl (dk zX11_sameOf 27 rfl) hc6f
set_option maxRecDepth 20000 in
set_option maxHeartbeats 2000000 in
theorem gX11_same_0 {E : EV} {Q : Po} {μ : Mem} {x1 : Int32} {x2 : Int32} (h : Sp E MX11_isWay [.int x1] μ (fun v m1 => ∃ r2 : Int32, v = some (.int r2) ∧ ((r2 = 0 → Q (some (.int ((-2)))) m1) ∧ (¬ r2 = 0 → Sp E MX11_isWay [.int x2] m1 (fun v m4 => ∃ r5 : Int32, v = some (.int r5) ∧ ((r5 = 0 → Q (some (.int ((-2)))) m4) ∧ (¬ r5 = 0 → Sp E MX11_sameOf [.ref 123, .int x1, .int x2] m4 (fun v m7 => ∃ r8 : Int32, v = some (.int r8) ∧ Q (some (.int r8)) m7)))))))) : Ex E MX11_same Q 0 [(0, .ref 123), (1, .int x1), (2, .int x2)] [] μ := by
  refine x_iload_n 1 rfl rfl (dk zX11_same 0 rfl) ?_
  refine x_callS (as := [.int x1]) (st := []) rfl okRX11_193 npX11_isWay ⟨Nat.le_of_ble_eq_true rfl, Nat.le_of_ble_eq_true rfl⟩ (Nat.le_of_ble_eq_true rfl) (dk zX11_same 1 rfl) ?_
  refine h.mono ?_
  rintro _ m1 ⟨r2, rfl, hm1⟩
  show Ex E MX11_same Q 4 [(0, .ref 123), (1, .int x1), (2, .int x2)] [.int r2] m1
  refine x_if_eq (tgt := 23) (by decide) (dk zX11_same 2 rfl) (fun c3 => ?_) (fun c3 => ?_)
  · have hc3t := hm1.1 c3
    refine x_bipush (v := -2) (by decide) (dk zX11_same 11 rfl) ?_
    exact x_iret (ty := .int) rfl rfl (dk zX11_same 12 rfl) hc3t
  · have hc3f := hm1.2 c3
    refine x_iload_n 2 rfl rfl (dk zX11_same 3 rfl) ?_
    refine x_callS (as := [.int x2]) (st := []) rfl okRX11_193 npX11_isWay ⟨Nat.le_of_ble_eq_true rfl, Nat.le_of_ble_eq_true rfl⟩ (Nat.le_of_ble_eq_true rfl) (dk zX11_same 4 rfl) ?_
    refine hc3f.mono ?_
    rintro _ m4 ⟨r5, rfl, hm4⟩
    show Ex E MX11_same Q 11 [(0, .ref 123), (1, .int x1), (2, .int x2)] [.int r5] m4
    refine x_if_eq (tgt := 23) (by decide) (dk zX11_same 5 rfl) (fun c6 => ?_) (fun c6 => ?_)
    · have hc6t := hm4.1 c6
      refine x_bipush (v := -2) (by decide) (dk zX11_same 11 rfl) ?_
      exact x_iret (ty := .int) rfl rfl (dk zX11_same 12 rfl) hc6t
    · have hc6f := hm4.2 c6
      refine x_aload_n 0 rfl rfl (dk zX11_same 6 rfl) ?_
      refine x_iload_n 1 rfl rfl (dk zX11_same 7 rfl) ?_
      refine x_iload_n 2 rfl rfl (dk zX11_same 8 rfl) ?_
      refine x_callV (as := [.int x1, .int x2]) (o := 123) (ci := 11) (st := []) rfl okRX11_217 npX11_sameOf ⟨Nat.le_of_ble_eq_true rfl, Nat.le_of_ble_eq_true rfl⟩ k123 (by decide) rfl (Nat.le_of_ble_eq_true rfl) (dk zX11_same 9 rfl) ?_
      refine hc6f.mono ?_
      rintro _ m7 ⟨r8, rfl, hm7⟩
      show Ex E MX11_same Q 20 [(0, .ref 123), (1, .int x1), (2, .int x2)] [.int r8] m7
      refine x_goto (tgt := 25) (by decide) (dk zX11_same 10 rfl) ?_
      exact x_iret (ty := .int) rfl rfl (dk zX11_same 12 rfl) hm7
set_option maxRecDepth 20000 in
set_option maxHeartbeats 2000000 in
theorem gX11_isUnseen_0 {E : EV} {Q : Po} {μ : Mem} {x1 : Int32} (h : vp_in (x1 / 2) 9 ∧ (((¬ (μ.1 132 ((x1 / 2).toNatClampNeg)) = 0 → Q (some (.int 0)) μ) ∧ ((μ.1 132 ((x1 / 2).toNatClampNeg)) = 0 → Sp E MX11_isShut [.ref 123, .int (x1 / 2)] μ (fun v m3 => ∃ r4 : Int32, v = some (.int r4) ∧ ((¬ r4 = 0 → Q (some (.int 0)) m3) ∧ (r4 = 0 → Q (some (.int 1)) m3))))))) : Ex E MX11_isUnseen Q 0 [(0, .ref 123), (1, .int x1)] [] μ := by
  refine x_aload_n 0 rfl rfl (dk zX11_isUnseen 0 rfl) ?_
  refine gf11_11 (r := 132) rfl k123 r123_11 (dk zX11_isUnseen 1 rfl) ?_
  refine x_iload_n 1 rfl rfl (dk zX11_isUnseen 2 rfl) ?_
  refine x_iconst (v := 2) (by decide) (dk zX11_isUnseen 3 rfl) ?_
  refine x_idiv (by decide) (dk zX11_isUnseen 4 rfl) ?_
  have b1 := h.1
  have hb1 := h.2
  refine y_zald (j := (x1 / 2).toNatClampNeg) k132 l132 b1 rfl (dk zX11_isUnseen 5 rfl) ?_
  refine x_if_ne (tgt := 25) (by decide) (dk zX11_isUnseen 6 rfl) (fun c2 => ?_) (fun c2 => ?_)
  · have hc2t := hb1.1 c2
    refine x_iconst (v := 0) (by decide) (dk zX11_isUnseen 15 rfl) ?_
    exact x_iret rfl rfl (dk zX11_isUnseen 16 rfl) hc2t
  · have hc2f := hb1.2 c2
    refine x_aload_n 0 rfl rfl (dk zX11_isUnseen 7 rfl) ?_
    refine x_iload_n 1 rfl rfl (dk zX11_isUnseen 8 rfl) ?_
    refine x_iconst (v := 2) (by decide) (dk zX11_isUnseen 9 rfl) ?_
    refine x_idiv (by decide) (dk zX11_isUnseen 10 rfl) ?_
    refine x_callV (as := [.int (x1 / 2)]) (o := 123) (ci := 11) (st := []) rfl okRX11_172 npX11_isShut ⟨Nat.le_of_ble_eq_true rfl, Nat.le_of_ble_eq_true rfl⟩ k123 (by decide) rfl (Nat.le_of_ble_eq_true rfl) (dk zX11_isUnseen 11 rfl) ?_
    refine hc2f.mono ?_
    rintro _ m3 ⟨r4, rfl, hm3⟩
    show Ex E MX11_isUnseen Q 18 [(0, .ref 123), (1, .int x1)] [.int r4] m3
    refine x_if_ne (tgt := 25) (by decide) (dk zX11_isUnseen 12 rfl) (fun c5 => ?_) (fun c5 => ?_)
    · have hc5t := hm3.1 c5
      refine x_iconst (v := 0) (by decide) (dk zX11_isUnseen 15 rfl) ?_
      exact x_iret rfl rfl (dk zX11_isUnseen 16 rfl) hc5t
    · have hc5f := hm3.2 c5
      refine x_iconst (v := 1) (by decide) (dk zX11_isUnseen 13 rfl) ?_
      refine x_goto (tgt := 26) (by decide) (dk zX11_isUnseen 14 rfl) ?_
      exact x_iret rfl rfl (dk zX11_isUnseen 16 rfl) hc5f
