set_option maxRecDepth 20000 in
set_option maxHeartbeats 2000000 in
theorem gX10_isTown_0 {E : EV} {Q : Po} {μ : Mem} {x0 : Int32} (h : ((x0 < 0 → Q (some (.int 0)) μ) ∧ (¬ x0 < 0 → ((8 ≤ x0 → Q (some (.int 0)) μ) ∧ (¬ 8 ≤ x0 → Q (some (.int 1)) μ))))) : Ex E MX10_isTown Q 0 [(0, .int x0)] [] μ := by
  refine x_iload_n 0 rfl rfl (dk zX10_isTown 0 rfl) ?_
  refine x_if_lt (tgt := 14) (by decide) (dk zX10_isTown 1 rfl) (fun c1 => ?_) (fun c1 => ?_)
  · have hc1t := h.1 c1
    refine x_iconst (v := 0) (by decide) (dk zX10_isTown 7 rfl) ?_
    exact x_iret rfl rfl (dk zX10_isTown 8 rfl) hc1t
  · have hc1f := h.2 c1
    refine x_iload_n 0 rfl rfl (dk zX10_isTown 2 rfl) ?_
    refine x_bipush (v := 8) (by decide) (dk zX10_isTown 3 rfl) ?_
    refine x_icmp_ge (tgt := 14) (by decide) (dk zX10_isTown 4 rfl) (fun c2 => ?_) (fun c2 => ?_)
    · have hc2t := hc1f.1 c2
      refine x_iconst (v := 0) (by decide) (dk zX10_isTown 7 rfl) ?_
      exact x_iret rfl rfl (dk zX10_isTown 8 rfl) hc2t
    · have hc2f := hc1f.2 c2
      refine x_iconst (v := 1) (by decide) (dk zX10_isTown 5 rfl) ?_
      refine x_goto (tgt := 15) (by decide) (dk zX10_isTown 6 rfl) ?_
      exact x_iret rfl rfl (dk zX10_isTown 8 rfl) hc2f
set_option maxRecDepth 20000 in
set_option maxHeartbeats 2000000 in
theorem gX10_isText_0 {E : EV} {Q : Po} {μ : Mem} {x0 : Int32} (h : ((x0 < 0 → Q (some (.int 0)) μ) ∧ (¬ x0 < 0 → ((4 ≤ x0 → Q (some (.int 0)) μ) ∧ (¬ 4 ≤ x0 → Q (some (.int 1)) μ))))) : Ex E MX10_isText Q 0 [(0, .int x0)] [] μ := by
  refine x_iload_n 0 rfl rfl (dk zX10_isText 0 rfl) ?_
  refine x_if_lt (tgt := 13) (by decide) (dk zX10_isText 1 rfl) (fun c1 => ?_) (fun c1 => ?_)
  · have hc1t := h.1 c1
    refine x_iconst (v := 0) (by decide) (dk zX10_isText 7 rfl) ?_
    exact x_iret rfl rfl (dk zX10_isText 8 rfl) hc1t
  · have hc1f := h.2 c1
    refine x_iload_n 0 rfl rfl (dk zX10_isText 2 rfl) ?_
    refine x_iconst (v := 4) (by decide) (dk zX10_isText 3 rfl) ?_
    refine x_icmp_ge (tgt := 13) (by decide) (dk zX10_isText 4 rfl) (fun c2 => ?_) (fun c2 => ?_)
    · have hc2t := hc1f.1 c2
      refine x_iconst (v := 0) (by decide) (dk zX10_isText 7 rfl) ?_
      exact x_iret rfl rfl (dk zX10_isText 8 rfl) hc2t
    · have hc2f := hc1f.2 c2
      refine x_iconst (v := 1) (by decide) (dk zX10_isText 5 rfl) ?_
      refine x_goto (tgt := 14) (by decide) (dk zX10_isText 6 rfl) ?_
      exact x_iret rfl rfl (dk zX10_isText 8 rfl) hc2f
set_option maxRecDepth 20000 in
set_option maxHeartbeats 2000000 in
theorem gX10_learnIfLand_0 {E : EV} {Q : Po} {μ : Mem} {x1 : Int32} (h : ((¬ x1 = 0 → Q none μ) ∧ (x1 = 0 → Sp E MX3_learn [.ref 1, .ref 115] μ (fun v m2 => v = none ∧ Q none m2)))) : Ex E MX10_learnIfLand Q 0 [(0, .ref 0), (1, .int x1)] [] μ := by
  refine x_iload_n 1 rfl rfl (dk zX10_learnIfLand 0 rfl) ?_
  refine x_if_ne (tgt := 17) (by decide) (dk zX10_learnIfLand 1 rfl) (fun c1 => ?_) (fun c1 => ?_)
  · have hc1t := h.1 c1
    exact x_vret rfl (dk zX10_learnIfLand 9 rfl) hc1t
  · have hc1f := h.2 c1
    refine x_aload_n 0 rfl rfl (dk zX10_learnIfLand 2 rfl) ?_
    refine gf10_0 (r := 1) rfl k0 r0_0 (dk zX10_learnIfLand 3 rfl) ?_
    refine x_aload_n 0 rfl rfl (dk zX10_learnIfLand 4 rfl) ?_
    refine gf10_1 (r := 3) rfl k0 r0_1 (dk zX10_learnIfLand 5 rfl) ?_
    refine x_iconst (v := 0) (by decide) (dk zX10_learnIfLand 6 rfl) ?_
    refine y_aaldT (b := 115) k3 l3 (by unfold vp_in; decide) (by decide) (dk zX10_learnIfLand 7 rfl) ?_
    refine x_callV (as := [.ref 115]) (o := 1) (ci := 3) (st := []) rfl okRX10_397 npX3_learn ⟨Nat.le_of_ble_eq_true rfl, Nat.le_of_ble_eq_true rfl⟩ k1 (by decide) rfl (Nat.le_of_ble_eq_true rfl) (dk zX10_learnIfLand 8 rfl) ?_
    refine hc1f.mono ?_
    rintro _ m2 ⟨rfl, hm2⟩
    show Ex E MX10_learnIfLand Q 17 [(0, .ref 0), (1, .int x1)] [] m2
    exact x_vret rfl (dk zX10_learnIfLand 9 rfl) hm2
set_option maxRecDepth 20000 in
set_option maxHeartbeats 2000000 in
theorem gX10_type_0 {E : EV} {Q : Po} {μ : Mem} {x1 : Int32} {x2 : Int32} (h : Sp E MX10_isText [.int x1] μ (fun v m1 => ∃ r2 : Int32, v = some (.int r2) ∧ ((r2 = 0 → Q (some (.int ((-2)))) m1) ∧ (¬ r2 = 0 → ((x2 < 0 → Q (some (.int ((-2)))) m1) ∧ (¬ x2 < 0 → ((x2 ≤ 255 → vp_in x1 4 ∧ (Sp E MX8_isFull [.ref (115 + 2 * x1.toNatClampNeg)] m1 (fun v m7 => ∃ r8 : Int32, v = some (.int r8) ∧ ((r8 = 0 → Sp E MX8_append [.ref (115 + 2 * x1.toNatClampNeg), .int x2] m7 (fun v m10 => v = none ∧ Sp E MX10_learnIfLand [.ref 0, .int x1] m10 (fun v m11 => v = none ∧ Sp E MX8_size [.ref (115 + 2 * x1.toNatClampNeg)] m11 (fun v m12 => ∃ r13 : Int32, v = some (.int r13) ∧ Q (some (.int r13)) m12)))) ∧ (¬ r8 = 0 → Q (some (.int ((-4)))) m7))))) ∧ (¬ x2 ≤ 255 → Q (some (.int ((-2)))) m1)))))))) : Ex E MX10_type Q 0 [(0, .ref 0), (1, .int x1), (2, .int x2)] [] μ := by
  refine x_iload_n 1 rfl rfl (dk zX10_type 0 rfl) ?_
  refine x_callS (as := [.int x1]) (st := []) rfl okRX10_89 npX10_isText ⟨Nat.le_of_ble_eq_true rfl, Nat.le_of_ble_eq_true rfl⟩ (Nat.le_of_ble_eq_true rfl) (dk zX10_type 1 rfl) ?_
  refine h.mono ?_
  rintro _ m1 ⟨r2, rfl, hm1⟩
  show Ex E MX10_type Q 4 [(0, .ref 0), (1, .int x1), (2, .int x2)] [.int r2] m1
  refine x_if_eq (tgt := 18) (by decide) (dk zX10_type 2 rfl) (fun c3 => ?_) (fun c3 => ?_)
  · have hc3t := hm1.1 c3
    refine x_bipush (v := -2) (by decide) (dk zX10_type 8 rfl) ?_
    exact x_iret (ty := .int) rfl rfl (dk zX10_type 9 rfl) hc3t
  · have hc3f := hm1.2 c3
    refine x_iload_n 2 rfl rfl (dk zX10_type 3 rfl) ?_
    refine x_if_lt (tgt := 18) (by decide) (dk zX10_type 4 rfl) (fun c4 => ?_) (fun c4 => ?_)
    · have hc4t := hc3f.1 c4
      refine x_bipush (v := -2) (by decide) (dk zX10_type 8 rfl) ?_
      exact x_iret (ty := .int) rfl rfl (dk zX10_type 9 rfl) hc4t
    · have hc4f := hc3f.2 c4
      refine x_iload_n 2 rfl rfl (dk zX10_type 5 rfl) ?_
      refine x_sipush (v := 255) (by decide) (dk zX10_type 6 rfl) ?_
      refine x_icmp_le (tgt := 21) (by decide) (dk zX10_type 7 rfl) (fun c5 => ?_) (fun c5 => ?_)
      · have hc5t := hc4f.1 c5
        refine x_aload_n 0 rfl rfl (dk zX10_type 10 rfl) ?_
        refine gf10_1 (r := 3) rfl k0 r0_1 (dk zX10_type 11 rfl) ?_
        refine x_iload_n 1 rfl rfl (dk zX10_type 12 rfl) ?_
        have b6 := hc5t.1
        have hb6 := hc5t.2
        refine y_aaldT (b := 115 + 2 * x1.toNatClampNeg) k3 l3 b6 rfl (dk zX10_type 13 rfl) ?_
        refine x_callV (as := []) (o := 115 + 2 * x1.toNatClampNeg) (ci := 8) (st := []) rfl okRX10_93 npX8_isFull ⟨Nat.le_of_ble_eq_true rfl, Nat.le_of_ble_eq_true rfl⟩ (sTxk b6) (by decide) rfl (Nat.le_of_ble_eq_true rfl) (dk zX10_type 14 rfl) ?_
        refine hb6.mono ?_
        rintro _ m7 ⟨r8, rfl, hm7⟩
        show Ex E MX10_type Q 30 [(0, .ref 0), (1, .int x1), (2, .int x2)] [.int r8] m7
        refine x_if_eq (tgt := 36) (by decide) (dk zX10_type 15 rfl) (fun c9 => ?_) (fun c9 => ?_)
        · have hc9t := hm7.1 c9
          refine x_aload_n 0 rfl rfl (dk zX10_type 18 rfl) ?_
          refine gf10_1 (r := 3) rfl k0 r0_1 (dk zX10_type 19 rfl) ?_
          refine x_iload_n 1 rfl rfl (dk zX10_type 20 rfl) ?_
          refine y_aaldT (b := 115 + 2 * x1.toNatClampNeg) k3 l3 b6 rfl (dk zX10_type 21 rfl) ?_
          refine x_iload_n 2 rfl rfl (dk zX10_type 22 rfl) ?_
          refine x_callV (as := [.int x2]) (o := 115 + 2 * x1.toNatClampNeg) (ci := 8) (st := []) rfl okRX10_97 npX8_append ⟨Nat.le_of_ble_eq_true rfl, Nat.le_of_ble_eq_true rfl⟩ (sTxk b6) (by decide) rfl (Nat.le_of_ble_eq_true rfl) (dk zX10_type 23 rfl) ?_
          refine hc9t.mono ?_
          rintro _ m10 ⟨rfl, hm10⟩
          show Ex E MX10_type Q 46 [(0, .ref 0), (1, .int x1), (2, .int x2)] [] m10
          refine x_aload_n 0 rfl rfl (dk zX10_type 24 rfl) ?_
          refine x_iload_n 1 rfl rfl (dk zX10_type 25 rfl) ?_
          refine x_callV (as := [.int x1]) (o := 0) (ci := 10) (st := []) rfl okRX10_100 npX10_learnIfLand ⟨Nat.le_of_ble_eq_true rfl, Nat.le_of_ble_eq_true rfl⟩ k0 (by decide) rfl (Nat.le_of_ble_eq_true rfl) (dk zX10_type 26 rfl) ?_
          refine hm10.mono ?_
          rintro _ m11 ⟨rfl, hm11⟩
          show Ex E MX10_type Q 51 [(0, .ref 0), (1, .int x1), (2, .int x2)] [] m11
          refine x_aload_n 0 rfl rfl (dk zX10_type 27 rfl) ?_
          refine gf10_1 (r := 3) rfl k0 r0_1 (dk zX10_type 28 rfl) ?_
          refine x_iload_n 1 rfl rfl (dk zX10_type 29 rfl) ?_
          refine y_aaldT (b := 115 + 2 * x1.toNatClampNeg) k3 l3 b6 rfl (dk zX10_type 30 rfl) ?_
          refine x_callV (as := []) (o := 115 + 2 * x1.toNatClampNeg) (ci := 8) (st := []) rfl okRX10_103 npX8_size ⟨Nat.le_of_ble_eq_true rfl, Nat.le_of_ble_eq_true rfl⟩ (sTxk b6) (by decide) rfl (Nat.le_of_ble_eq_true rfl) (dk zX10_type 31 rfl) ?_
          refine hm11.mono ?_
          rintro _ m12 ⟨r13, rfl, hm12⟩
          show Ex E MX10_type Q 60 [(0, .ref 0), (1, .int x1), (2, .int x2)] [.int r13] m12
          exact x_iret (ty := .int) rfl rfl (dk zX10_type 32 rfl) hm12
        · have hc9f := hm7.2 c9
          refine x_bipush (v := -4) (by decide) (dk zX10_type 16 rfl) ?_
          exact x_iret (ty := .int) rfl rfl (dk zX10_type 17 rfl) hc9f
      · have hc5f := hc4f.2 c5
        refine x_bipush (v := -2) (by decide) (dk zX10_type 8 rfl) ?_
        exact x_iret (ty := .int) rfl rfl (dk zX10_type 9 rfl) hc5f
set_option maxRecDepth 20000 in
set_option maxHeartbeats 2000000 in
theorem gX10_wipe_0 {E : EV} {Q : Po} {μ : Mem} {x1 : Int32} (h : Sp E MX10_isText [.int x1] μ (fun v m1 => ∃ r2 : Int32, v = some (.int r2) ∧ ((¬ r2 = 0 → vp_in x1 4 ∧ (Sp E MX8_size [.ref (115 + 2 * x1.toNatClampNeg)] m1 (fun v m5 => ∃ r6 : Int32, v = some (.int r6) ∧ Sp E MX8_empty [.ref (115 + 2 * x1.toNatClampNeg)] m5 (fun v m7 => v = none ∧ Sp E MX10_learnIfLand [.ref 0, .int x1] m7 (fun v m8 => v = none ∧ Q (some (.int r6)) m8))))) ∧ (r2 = 0 → Q (some (.int ((-2)))) m1)))) : Ex E MX10_wipe Q 0 [(0, .ref 0), (1, .int x1)] [] μ := by
  refine x_iload_n 1 rfl rfl (dk zX10_wipe 0 rfl) ?_
  refine x_callS (as := [.int x1]) (st := []) rfl okRX10_89 npX10_isText ⟨Nat.le_of_ble_eq_true rfl, Nat.le_of_ble_eq_true rfl⟩ (Nat.le_of_ble_eq_true rfl) (dk zX10_wipe 1 rfl) ?_
  refine h.mono ?_
  rintro _ m1 ⟨r2, rfl, hm1⟩
  show Ex E MX10_wipe Q 4 [(0, .ref 0), (1, .int x1)] [.int r2] m1
  refine x_if_ne (tgt := 10) (by decide) (dk zX10_wipe 2 rfl) (fun c3 => ?_) (fun c3 => ?_)
  · have hc3t := hm1.1 c3
    refine x_aload_n 0 rfl rfl (dk zX10_wipe 5 rfl) ?_
    refine gf10_1 (r := 3) rfl k0 r0_1 (dk zX10_wipe 6 rfl) ?_
    refine x_iload_n 1 rfl rfl (dk zX10_wipe 7 rfl) ?_
    have b4 := hc3t.1
    have hb4 := hc3t.2
    refine y_aaldT (b := 115 + 2 * x1.toNatClampNeg) k3 l3 b4 rfl (dk zX10_wipe 8 rfl) ?_
    refine x_callV (as := []) (o := 115 + 2 * x1.toNatClampNeg) (ci := 8) (st := []) rfl okRX10_103 npX8_size ⟨Nat.le_of_ble_eq_true rfl, Nat.le_of_ble_eq_true rfl⟩ (sTxk b4) (by decide) rfl (Nat.le_of_ble_eq_true rfl) (dk zX10_wipe 9 rfl) ?_
    refine hb4.mono ?_
    rintro _ m5 ⟨r6, rfl, hm5⟩
    show Ex E MX10_wipe Q 19 [(0, .ref 0), (1, .int x1)] [.int r6] m5
    refine x_istore_n (k := 2) (l' := [(0, .ref 0), (1, .int x1), (2, .int r6)]) [1, 2, 0] rfl rfl (by decide) (dk zX10_wipe 10 rfl) ?_
    refine x_aload_n 0 rfl rfl (dk zX10_wipe 11 rfl) ?_
    refine gf10_1 (r := 3) rfl k0 r0_1 (dk zX10_wipe 12 rfl) ?_
    refine x_iload_n 1 rfl rfl (dk zX10_wipe 13 rfl) ?_
    refine y_aaldT (b := 115 + 2 * x1.toNatClampNeg) k3 l3 b4 rfl (dk zX10_wipe 14 rfl) ?_
    refine x_callV (as := []) (o := 115 + 2 * x1.toNatClampNeg) (ci := 8) (st := []) rfl okRX10_107 npX8_empty ⟨Nat.le_of_ble_eq_true rfl, Nat.le_of_ble_eq_true rfl⟩ (sTxk b4) (by decide) rfl (Nat.le_of_ble_eq_true rfl) (dk zX10_wipe 15 rfl) ?_
    refine hm5.mono ?_
    rintro _ m7 ⟨rfl, hm7⟩
    show Ex E MX10_wipe Q 29 [(0, .ref 0), (1, .int x1), (2, .int r6)] [] m7
    refine x_aload_n 0 rfl rfl (dk zX10_wipe 16 rfl) ?_
    refine x_iload_n 1 rfl rfl (dk zX10_wipe 17 rfl) ?_
    refine x_callV (as := [.int x1]) (o := 0) (ci := 10) (st := []) rfl okRX10_100 npX10_learnIfLand ⟨Nat.le_of_ble_eq_true rfl, Nat.le_of_ble_eq_true rfl⟩ k0 (by decide) rfl (Nat.le_of_ble_eq_true rfl) (dk zX10_wipe 18 rfl) ?_
    refine hm7.mono ?_
    rintro _ m8 ⟨rfl, hm8⟩
    show Ex E MX10_wipe Q 34 [(0, .ref 0), (1, .int x1), (2, .int r6)] [] m8
    refine x_iload_n 2 rfl rfl (dk zX10_wipe 19 rfl) ?_
    exact x_iret (ty := .int) rfl rfl (dk zX10_wipe 20 rfl) hm8
  · have hc3f := hm1.2 c3
    refine x_bipush (v := -2) (by decide) (dk zX10_wipe 3 rfl) ?_
    exact x_iret (ty := .int) rfl rfl (dk zX10_wipe 4 rfl) hc3f
set_option maxRecDepth 20000 in
set_option maxHeartbeats 2000000 in
theorem gX10_wayFault_0 {E : EV} {Q : Po} {μ : Mem} {x1 : Nat} (hk1 : kd x1 = 8) (h : Ex E MX10_wayFault Q 2 [(0, .ref 0), (1, .ref x1), (2, .int 0)] [] μ) : Ex E MX10_wayFault Q 0 [(0, .ref 0), (1, .ref x1)] [] μ := by
  refine x_iconst (v := 0) (by decide) (dk zX10_wayFault 0 rfl) ?_
  refine x_istore_n (k := 2) (l' := [(0, .ref 0), (1, .ref x1), (2, .int 0)]) [1, 2, 0] rfl rfl (by decide) (dk zX10_wayFault 1 rfl) ?_
  exact h
set_option maxRecDepth 20000 in
set_option maxHeartbeats 2000000 in
theorem gX10_wayFault_2 {E : EV} {Q : Po} {μ : Mem} {x1 : Nat} {x2 : Int32} (hk_x1 : kd x1 = 8) (h : Sp E MX8_size [.ref x1] μ (fun v m1 => ∃ r2 : Int32, v = some (.int r2) ∧ ((r2 ≤ x2 → Q (some (.int ((-1)))) m1) ∧ (¬ r2 ≤ x2 → Sp E MX8_at [.ref x1, .int x2] m1 (fun v m4 => ∃ r5 : Int32, v = some (.int r5) ∧ Sp E MX3_letterOf [.ref 1, .int r5] m4 (fun v m6 => ∃ r7 : Int32, v = some (.int r7) ∧ ((¬ r7 = ((-1)) → ∀ v9 : Int32, v9 = x2 + 1 → Ex E MX10_wayFault Q 2 [(0, .ref 0), (1, .ref x1), (2, .int v9)] [] m6) ∧ (r7 = ((-1)) → Q (some (.int x2)) m6)))))))) : Ex E MX10_wayFault Q 2 [(0, .ref 0), (1, .ref x1), (2, .int x2)] [] μ := by
  refine x_iload_n 2 rfl rfl (dk zX10_wayFault 2 rfl) ?_
  refine x_aload_n 1 rfl rfl (dk zX10_wayFault 3 rfl) ?_
  refine x_callV (as := []) (o := x1) (ci := 8) (st := [.int x2]) rfl okRX10_103 npX8_size ⟨Nat.le_of_ble_eq_true rfl, Nat.le_of_ble_eq_true rfl⟩ hk_x1 (by decide) rfl (Nat.le_of_ble_eq_true rfl) (dk zX10_wayFault 4 rfl) ?_
  refine h.mono ?_
  rintro _ m1 ⟨r2, rfl, hm1⟩
  show Ex E MX10_wayFault Q 7 [(0, .ref 0), (1, .ref x1), (2, .int x2)] [.int r2, .int x2] m1
  refine x_icmp_ge (tgt := 34) (by decide) (dk zX10_wayFault 5 rfl) (fun c3 => ?_) (fun c3 => ?_)
  · have hc3t := hm1.1 c3
    refine x_iconst (v := -1) (by decide) (dk zX10_wayFault 18 rfl) ?_
    exact x_iret (ty := .int) rfl rfl (dk zX10_wayFault 19 rfl) hc3t
  · have hc3f := hm1.2 c3
    refine x_aload_n 0 rfl rfl (dk zX10_wayFault 6 rfl) ?_
    refine gf10_0 (r := 1) rfl k0 r0_0 (dk zX10_wayFault 7 rfl) ?_
    refine x_aload_n 1 rfl rfl (dk zX10_wayFault 8 rfl) ?_
    refine x_iload_n 2 rfl rfl (dk zX10_wayFault 9 rfl) ?_
    refine x_callV (as := [.int x2]) (o := x1) (ci := 8) (st := [.ref 1]) rfl okRX10_401 npX8_at ⟨Nat.le_of_ble_eq_true rfl, Nat.le_of_ble_eq_true rfl⟩ hk_x1 (by decide) rfl (Nat.le_of_ble_eq_true rfl) (dk zX10_wayFault 10 rfl) ?_
    refine hc3f.mono ?_
    rintro _ m4 ⟨r5, rfl, hm4⟩
    show Ex E MX10_wayFault Q 19 [(0, .ref 0), (1, .ref x1), (2, .int x2)] [.int r5, .ref 1] m4
    refine x_callV (as := [.int r5]) (o := 1) (ci := 3) (st := []) rfl okRX10_234 npX3_letterOf ⟨Nat.le_of_ble_eq_true rfl, Nat.le_of_ble_eq_true rfl⟩ k1 (by decide) rfl (Nat.le_of_ble_eq_true rfl) (dk zX10_wayFault 11 rfl) ?_
    refine hm4.mono ?_
    rintro _ m6 ⟨r7, rfl, hm6⟩
    show Ex E MX10_wayFault Q 22 [(0, .ref 0), (1, .ref x1), (2, .int x2)] [.int r7] m6
    refine x_iconst (v := -1) (by decide) (dk zX10_wayFault 12 rfl) ?_
    refine x_icmp_ne (tgt := 28) (by decide) (dk zX10_wayFault 13 rfl) (fun c8 => ?_) (fun c8 => ?_)
    · have hc8t := hm6.1 c8
      obtain ⟨v9, ev9⟩ : ∃ y : Int32, y = x2 + 1 := ⟨_, rfl⟩
      have hv9 := hc8t v9 ev9
      refine x_iinc (v := v9) (l' := [(0, .ref 0), (1, .ref x1), (2, .int v9)]) 2 rfl (by rw [ev9]; rfl) [1, 2, 0] rfl (by decide) (dk zX10_wayFault 16 rfl) ?_
      refine x_goto (tgt := 2) (by decide) (dk zX10_wayFault 17 rfl) ?_
      exact hv9
    · have hc8f := hm6.2 c8
      refine x_iload_n 2 rfl rfl (dk zX10_wayFault 14 rfl) ?_
      exact x_iret (ty := .int) rfl rfl (dk zX10_wayFault 15 rfl) hc8f
set_option maxRecDepth 20000 in
set_option maxHeartbeats 2000000 in
theorem gX10_fault_0 {E : EV} {Q : Po} {μ : Mem} {x1 : Int32} (h : Sp E MX10_isText [.int x1] μ (fun v m1 => ∃ r2 : Int32, v = some (.int r2) ∧ ((¬ r2 = 0 → ((¬ x1 = 0 → vp_in x1 4 ∧ (Sp E MX10_wayFault [.ref 0, .ref (115 + 2 * x1.toNatClampNeg)] m1 (fun v m6 => ∃ r7 : Int32, v = some (.int r7) ∧ Q (some (.int r7)) m6))) ∧ (x1 = 0 → Sp E MX3_faultPlace [.ref 1] m1 (fun v m8 => ∃ r9 : Int32, v = some (.int r9) ∧ Q (some (.int r9)) m8)))) ∧ (r2 = 0 → Q (some (.int ((-2)))) m1)))) : Ex E MX10_fault Q 0 [(0, .ref 0), (1, .int x1)] [] μ := by
  refine x_iload_n 1 rfl rfl (dk zX10_fault 0 rfl) ?_
  refine x_callS (as := [.int x1]) (st := []) rfl okRX10_89 npX10_isText ⟨Nat.le_of_ble_eq_true rfl, Nat.le_of_ble_eq_true rfl⟩ (Nat.le_of_ble_eq_true rfl) (dk zX10_fault 1 rfl) ?_
  refine h.mono ?_
  rintro _ m1 ⟨r2, rfl, hm1⟩
  show Ex E MX10_fault Q 4 [(0, .ref 0), (1, .int x1)] [.int r2] m1
  refine x_if_ne (tgt := 10) (by decide) (dk zX10_fault 2 rfl) (fun c3 => ?_) (fun c3 => ?_)
  · have hc3t := hm1.1 c3
    refine x_iload_n 1 rfl rfl (dk zX10_fault 5 rfl) ?_
    refine x_if_ne (tgt := 24) (by decide) (dk zX10_fault 6 rfl) (fun c4 => ?_) (fun c4 => ?_)
    · have hc4t := hc3t.1 c4
      refine x_aload_n 0 rfl rfl (dk zX10_fault 11 rfl) ?_
      refine x_aload_n 0 rfl rfl (dk zX10_fault 12 rfl) ?_
      refine gf10_1 (r := 3) rfl k0 r0_1 (dk zX10_fault 13 rfl) ?_
      refine x_iload_n 1 rfl rfl (dk zX10_fault 14 rfl) ?_
      have b5 := hc4t.1
      have hb5 := hc4t.2
      refine y_aaldT (b := 115 + 2 * x1.toNatClampNeg) k3 l3 b5 rfl (dk zX10_fault 15 rfl) ?_
      refine x_callV (as := [.ref (115 + 2 * x1.toNatClampNeg)]) (o := 0) (ci := 10) (st := []) rfl okRX10_113 npX10_wayFault ⟨Nat.le_of_ble_eq_true rfl, Nat.le_of_ble_eq_true rfl⟩ k0 (by decide) rfl (Nat.le_of_ble_eq_true rfl) (dk zX10_fault 16 rfl) ?_
      refine hb5.mono ?_
      rintro _ m6 ⟨r7, rfl, hm6⟩
      show Ex E MX10_fault Q 34 [(0, .ref 0), (1, .int x1)] [.int r7] m6
      exact x_iret (ty := .int) rfl rfl (dk zX10_fault 17 rfl) hm6
    · have hc4f := hc3t.2 c4
      refine x_aload_n 0 rfl rfl (dk zX10_fault 7 rfl) ?_
      refine gf10_0 (r := 1) rfl k0 r0_0 (dk zX10_fault 8 rfl) ?_
      refine x_callV (as := []) (o := 1) (ci := 3) (st := []) rfl okRX10_110 npX3_faultPlace ⟨Nat.le_of_ble_eq_true rfl, Nat.le_of_ble_eq_true rfl⟩ k1 (by decide) rfl (Nat.le_of_ble_eq_true rfl) (dk zX10_fault 9 rfl) ?_
      refine hc4f.mono ?_
      rintro _ m8 ⟨r9, rfl, hm8⟩
      show Ex E MX10_fault Q 21 [(0, .ref 0), (1, .int x1)] [.int r9] m8
      refine x_goto (tgt := 34) (by decide) (dk zX10_fault 10 rfl) ?_
      exact x_iret (ty := .int) rfl rfl (dk zX10_fault 17 rfl) hm8
  · have hc3f := hm1.2 c3
    refine x_bipush (v := -2) (by decide) (dk zX10_fault 3 rfl) ?_
    exact x_iret (ty := .int) rfl rfl (dk zX10_fault 4 rfl) hc3f
set_option maxRecDepth 20000 in
set_option maxHeartbeats 2000000 in
theorem gX10_gate_0 {E : EV} {Q : Po} {μ : Mem} {x1 : Int32} {x2 : Int32} (h : Sp E MX3_hasGate [.ref 1, .int x1] μ (fun v m1 => ∃ r2 : Int32, v = some (.int r2) ∧ ((r2 = 0 → Q (some (.int ((-2)))) m1) ∧ (¬ r2 = 0 → ((x2 < 0 → Q (some (.int ((-2)))) m1) ∧ (¬ x2 < 0 → ((x2 ≤ 3 → ((x2 = 0 → Sp E MX3_from [.ref 1, .int (2 * x1)] m1 (fun v m7 => ∃ r8 : Int32, v = some (.int r8) ∧ Q (some (.int r8)) m7)) ∧ ((x2 = 1 → Sp E MX3_to [.ref 1, .int (2 * x1)] m1 (fun v m10 => ∃ r11 : Int32, v = some (.int r11) ∧ Q (some (.int r11)) m10)) ∧ ((x2 = 2 → Sp E MX3_isWatched [.ref 1, .int (2 * x1)] m1 (fun v m13 => ∃ r14 : Int32, v = some (.int r14) ∧ ((r14 = 0 → Q (some (.int 0)) m13) ∧ (¬ r14 = 0 → Q (some (.int 1)) m13)))) ∧ (¬ x2 = 0 → ¬ x2 = 1 → ¬ x2 = 2 → Sp E MX3_isOpen [.ref 1, .int (2 * x1)] m1 (fun v m17 => ∃ r18 : Int32, v = some (.int r18) ∧ ((r18 = 0 → Q (some (.int 1)) m17) ∧ (¬ r18 = 0 → Q (some (.int 0)) m17)))))))) ∧ (¬ x2 ≤ 3 → Q (some (.int ((-2)))) m1)))))))) : Ex E MX10_gate Q 0 [(0, .ref 0), (1, .int x1), (2, .int x2)] [] μ := by
  refine x_aload_n 0 rfl rfl (dk zX10_gate 0 rfl) ?_
  refine gf10_0 (r := 1) rfl k0 r0_0 (dk zX10_gate 1 rfl) ?_
  refine x_iload_n 1 rfl rfl (dk zX10_gate 2 rfl) ?_
  refine x_callV (as := [.int x1]) (o := 1) (ci := 3) (st := []) rfl okRX10_117 npX3_hasGate ⟨Nat.le_of_ble_eq_true rfl, Nat.le_of_ble_eq_true rfl⟩ k1 (by decide) rfl (Nat.le_of_ble_eq_true rfl) (dk zX10_gate 3 rfl) ?_
  refine h.mono ?_
  rintro _ m1 ⟨r2, rfl, hm1⟩
  show Ex E MX10_gate Q 8 [(0, .ref 0), (1, .int x1), (2, .int x2)] [.int r2] m1
  refine x_if_eq (tgt := 20) (by decide) (dk zX10_gate 4 rfl) (fun c3 => ?_) (fun c3 => ?_)
  · have hc3t := hm1.1 c3
    refine x_bipush (v := -2) (by decide) (dk zX10_gate 10 rfl) ?_
    exact x_iret (ty := .int) rfl rfl (dk zX10_gate 11 rfl) hc3t
  · have hc3f := hm1.2 c3
    refine x_iload_n 2 rfl rfl (dk zX10_gate 5 rfl) ?_
    refine x_if_lt (tgt := 20) (by decide) (dk zX10_gate 6 rfl) (fun c4 => ?_) (fun c4 => ?_)
    · have hc4t := hc3f.1 c4
      refine x_bipush (v := -2) (by decide) (dk zX10_gate 10 rfl) ?_
      exact x_iret (ty := .int) rfl rfl (dk zX10_gate 11 rfl) hc4t
    · have hc4f := hc3f.2 c4
      refine x_iload_n 2 rfl rfl (dk zX10_gate 7 rfl) ?_
      refine x_iconst (v := 3) (by decide) (dk zX10_gate 8 rfl) ?_
      refine x_icmp_le (tgt := 23) (by decide) (dk zX10_gate 9 rfl) (fun c5 => ?_) (fun c5 => ?_)
      · have hc5t := hc4f.1 c5
        refine x_iload_n 2 rfl rfl (dk zX10_gate 12 rfl) ?_
        by_cases c6 : x2 = 0
        · have hc6 := hc5t.1 c6
          refine x_tabIn (off := 28) (tgt := 52) (by rw [c6]; decide) (by rw [c6]; decide) (by rw [c6]; rfl) (by decide) (dk zX10_gate 13 rfl) ?_
          refine x_aload_n 0 rfl rfl (dk zX10_gate 14 rfl) ?_
          refine gf10_0 (r := 1) rfl k0 r0_0 (dk zX10_gate 15 rfl) ?_
          refine x_iconst (v := 2) (by decide) (dk zX10_gate 16 rfl) ?_
          refine x_iload_n 1 rfl rfl (dk zX10_gate 17 rfl) ?_
          refine x_imul (dk zX10_gate 18 rfl) ?_
          refine x_callV (as := [.int (2 * x1)]) (o := 1) (ci := 3) (st := []) rfl okRX10_120 npX3_from ⟨Nat.le_of_ble_eq_true rfl, Nat.le_of_ble_eq_true rfl⟩ k1 (by decide) rfl (Nat.le_of_ble_eq_true rfl) (dk zX10_gate 19 rfl) ?_
          refine hc6.mono ?_
          rintro _ m7 ⟨r8, rfl, hm7⟩
          show Ex E MX10_gate Q 62 [(0, .ref 0), (1, .int x1), (2, .int x2)] [.int r8] m7
          exact x_iret (ty := .int) rfl rfl (dk zX10_gate 20 rfl) hm7
        by_cases c9 : x2 = 1
        · have hc9 := hc5t.2.1 c9
          refine x_tabIn (off := 39) (tgt := 63) (by rw [c9]; decide) (by rw [c9]; decide) (by rw [c9]; rfl) (by decide) (dk zX10_gate 13 rfl) ?_
          refine x_aload_n 0 rfl rfl (dk zX10_gate 21 rfl) ?_
          refine gf10_0 (r := 1) rfl k0 r0_0 (dk zX10_gate 22 rfl) ?_
          refine x_iconst (v := 2) (by decide) (dk zX10_gate 23 rfl) ?_
          refine x_iload_n 1 rfl rfl (dk zX10_gate 24 rfl) ?_
          refine x_imul (dk zX10_gate 25 rfl) ?_
          refine x_callV (as := [.int (2 * x1)]) (o := 1) (ci := 3) (st := []) rfl okRX10_124 npX3_to ⟨Nat.le_of_ble_eq_true rfl, Nat.le_of_ble_eq_true rfl⟩ k1 (by decide) rfl (Nat.le_of_ble_eq_true rfl) (dk zX10_gate 26 rfl) ?_
          refine hc9.mono ?_
          rintro _ m10 ⟨r11, rfl, hm10⟩
          show Ex E MX10_gate Q 73 [(0, .ref 0), (1, .int x1), (2, .int x2)] [.int r11] m10
          exact x_iret (ty := .int) rfl rfl (dk zX10_gate 27 rfl) hm10
        by_cases c12 : x2 = 2
        · have hc12 := hc5t.2.2.1 c12
          refine x_tabIn (off := 50) (tgt := 74) (by rw [c12]; decide) (by rw [c12]; decide) (by rw [c12]; rfl) (by decide) (dk zX10_gate 13 rfl) ?_
          refine x_aload_n 0 rfl rfl (dk zX10_gate 28 rfl) ?_
          refine gf10_0 (r := 1) rfl k0 r0_0 (dk zX10_gate 29 rfl) ?_
          refine x_iconst (v := 2) (by decide) (dk zX10_gate 30 rfl) ?_
          refine x_iload_n 1 rfl rfl (dk zX10_gate 31 rfl) ?_
          refine x_imul (dk zX10_gate 32 rfl) ?_
          refine x_callV (as := [.int (2 * x1)]) (o := 1) (ci := 3) (st := []) rfl okRX10_127 npX3_isWatched ⟨Nat.le_of_ble_eq_true rfl, Nat.le_of_ble_eq_true rfl⟩ k1 (by decide) rfl (Nat.le_of_ble_eq_true rfl) (dk zX10_gate 33 rfl) ?_
          refine hc12.mono ?_
          rintro _ m13 ⟨r14, rfl, hm13⟩
          show Ex E MX10_gate Q 84 [(0, .ref 0), (1, .int x1), (2, .int x2)] [.int r14] m13
          refine x_if_eq (tgt := 91) (by decide) (dk zX10_gate 34 rfl) (fun c15 => ?_) (fun c15 => ?_)
          · have hc15t := hm13.1 c15
            refine x_iconst (v := 0) (by decide) (dk zX10_gate 37 rfl) ?_
            exact x_iret (ty := .int) rfl rfl (dk zX10_gate 38 rfl) hc15t
          · have hc15f := hm13.2 c15
            refine x_iconst (v := 1) (by decide) (dk zX10_gate 35 rfl) ?_
            refine x_goto (tgt := 92) (by decide) (dk zX10_gate 36 rfl) ?_
            exact x_iret (ty := .int) rfl rfl (dk zX10_gate 38 rfl) hc15f
        have hd16 := hc5t.2.2.2 c6 c9 c12
        refine x_tabOut (tgt := 93) (by have := lv_neT (a := 0) c6 (by decide); have := lv_neT (a := 1) c9 (by decide); have := lv_neT (a := 2) c12 (by decide); omega) (by decide) (dk zX10_gate 13 rfl) ?_
        refine x_aload_n 0 rfl rfl (dk zX10_gate 39 rfl) ?_
        refine gf10_0 (r := 1) rfl k0 r0_0 (dk zX10_gate 40 rfl) ?_
        refine x_iconst (v := 2) (by decide) (dk zX10_gate 41 rfl) ?_
        refine x_iload_n 1 rfl rfl (dk zX10_gate 42 rfl) ?_
        refine x_imul (dk zX10_gate 43 rfl) ?_
        refine x_callV (as := [.int (2 * x1)]) (o := 1) (ci := 3) (st := []) rfl okRX10_130 npX3_isOpen ⟨Nat.le_of_ble_eq_true rfl, Nat.le_of_ble_eq_true rfl⟩ k1 (by decide) rfl (Nat.le_of_ble_eq_true rfl) (dk zX10_gate 44 rfl) ?_
        refine hd16.mono ?_
        rintro _ m17 ⟨r18, rfl, hm17⟩
        show Ex E MX10_gate Q 103 [(0, .ref 0), (1, .int x1), (2, .int x2)] [.int r18] m17
        refine x_if_eq (tgt := 110) (by decide) (dk zX10_gate 45 rfl) (fun c19 => ?_) (fun c19 => ?_)
        · have hc19t := hm17.1 c19
          refine x_iconst (v := 1) (by decide) (dk zX10_gate 48 rfl) ?_
          exact x_iret (ty := .int) rfl rfl (dk zX10_gate 49 rfl) hc19t
        · have hc19f := hm17.2 c19
          refine x_iconst (v := 0) (by decide) (dk zX10_gate 46 rfl) ?_
          refine x_goto (tgt := 111) (by decide) (dk zX10_gate 47 rfl) ?_
          exact x_iret (ty := .int) rfl rfl (dk zX10_gate 49 rfl) hc19f
      · have hc5f := hc4f.2 c5
        refine x_bipush (v := -2) (by decide) (dk zX10_gate 10 rfl) ?_
        exact x_iret (ty := .int) rfl rfl (dk zX10_gate 11 rfl) hc5f
set_option maxRecDepth 20000 in
set_option maxHeartbeats 2000000 in
theorem gX10_room_0 {E : EV} {Q : Po} {μ : Mem}  (h : Sp E MX3_roomTold [.ref 1] μ (fun v m1 => ∃ r2 : Int32, v = some (.int r2) ∧ Q (some (.int r2)) m1)) : Ex E MX10_room Q 0 [(0, .ref 0)] [] μ := by
  refine x_aload_n 0 rfl rfl (dk zX10_room 0 rfl) ?_
  refine gf10_0 (r := 1) rfl k0 r0_0 (dk zX10_room 1 rfl) ?_
  refine x_callV (as := []) (o := 1) (ci := 3) (st := []) rfl okRX10_133 npX3_roomTold ⟨Nat.le_of_ble_eq_true rfl, Nat.le_of_ble_eq_true rfl⟩ k1 (by decide) rfl (Nat.le_of_ble_eq_true rfl) (dk zX10_room 2 rfl) ?_
  refine h.mono ?_
  rintro _ m1 ⟨r2, rfl, hm1⟩
  show Ex E MX10_room Q 7 [(0, .ref 0)] [.int r2] m1
  exact x_iret (ty := .int) rfl rfl (dk zX10_room 3 rfl) hm1
set_option maxRecDepth 20000 in
set_option maxHeartbeats 2000000 in
theorem gX10_shut_0 {E : EV} {Q : Po} {μ : Mem} {x1 : Int32} (h : ((x1 < 0 → Q (some (.int ((-2)))) μ) ∧ (¬ x1 < 0 → ((x1 ≤ 511 → Sp E MX3_close [.ref 1, .int x1] μ (fun v m3 => ∃ r4 : Int32, v = some (.int r4) ∧ Q (some (.int r4)) m3)) ∧ (¬ x1 ≤ 511 → Q (some (.int ((-2)))) μ))))) : Ex E MX10_shut Q 0 [(0, .ref 0), (1, .int x1)] [] μ := by
  refine x_iload_n 1 rfl rfl (dk zX10_shut 0 rfl) ?_
  refine x_if_lt (tgt := 11) (by decide) (dk zX10_shut 1 rfl) (fun c1 => ?_) (fun c1 => ?_)
  · have hc1t := h.1 c1
    refine x_bipush (v := -2) (by decide) (dk zX10_shut 5 rfl) ?_
    exact x_iret (ty := .int) rfl rfl (dk zX10_shut 6 rfl) hc1t
  · have hc1f := h.2 c1
    refine x_iload_n 1 rfl rfl (dk zX10_shut 2 rfl) ?_
    refine x_sipush (v := 511) (by decide) (dk zX10_shut 3 rfl) ?_
    refine x_icmp_le (tgt := 14) (by decide) (dk zX10_shut 4 rfl) (fun c2 => ?_) (fun c2 => ?_)
    · have hc2t := hc1f.1 c2
      refine x_aload_n 0 rfl rfl (dk zX10_shut 7 rfl) ?_
      refine gf10_0 (r := 1) rfl k0 r0_0 (dk zX10_shut 8 rfl) ?_
      refine x_iload_n 1 rfl rfl (dk zX10_shut 9 rfl) ?_
      refine x_callV (as := [.int x1]) (o := 1) (ci := 3) (st := []) rfl okRX10_136 npX3_close ⟨Nat.le_of_ble_eq_true rfl, Nat.le_of_ble_eq_true rfl⟩ k1 (by decide) rfl (Nat.le_of_ble_eq_true rfl) (dk zX10_shut 10 rfl) ?_
      refine hc2t.mono ?_
      rintro _ m3 ⟨r4, rfl, hm3⟩
      show Ex E MX10_shut Q 22 [(0, .ref 0), (1, .int x1)] [.int r4] m3
      exact x_iret (ty := .int) rfl rfl (dk zX10_shut 11 rfl) hm3
    · have hc2f := hc1f.2 c2
      refine x_bipush (v := -2) (by decide) (dk zX10_shut 5 rfl) ?_
      exact x_iret (ty := .int) rfl rfl (dk zX10_shut 6 rfl) hc2f
set_option maxRecDepth 20000 in
set_option maxHeartbeats 2000000 in
theorem gX10_isWay_0 {E : EV} {Q : Po} {μ : Mem} {x0 : Int32} (h : ((x0 < 1 → Q (some (.int 0)) μ) ∧ (¬ x0 < 1 → ((4 ≤ x0 → Q (some (.int 0)) μ) ∧ (¬ 4 ≤ x0 → Q (some (.int 1)) μ))))) : Ex E MX10_isWay Q 0 [(0, .int x0)] [] μ := by
  refine x_iload_n 0 rfl rfl (dk zX10_isWay 0 rfl) ?_
  refine x_iconst (v := 1) (by decide) (dk zX10_isWay 1 rfl) ?_
  refine x_icmp_lt (tgt := 14) (by decide) (dk zX10_isWay 2 rfl) (fun c1 => ?_) (fun c1 => ?_)
  · have hc1t := h.1 c1
    refine x_iconst (v := 0) (by decide) (dk zX10_isWay 8 rfl) ?_
    exact x_iret rfl rfl (dk zX10_isWay 9 rfl) hc1t
  · have hc1f := h.2 c1
    refine x_iload_n 0 rfl rfl (dk zX10_isWay 3 rfl) ?_
    refine x_iconst (v := 4) (by decide) (dk zX10_isWay 4 rfl) ?_
    refine x_icmp_ge (tgt := 14) (by decide) (dk zX10_isWay 5 rfl) (fun c2 => ?_) (fun c2 => ?_)
    · have hc2t := hc1f.1 c2
      refine x_iconst (v := 0) (by decide) (dk zX10_isWay 8 rfl) ?_
      exact x_iret rfl rfl (dk zX10_isWay 9 rfl) hc2t
    · have hc2f := hc1f.2 c2
      refine x_iconst (v := 1) (by decide) (dk zX10_isWay 6 rfl) ?_
      refine x_goto (tgt := 15) (by decide) (dk zX10_isWay 7 rfl) ?_
      exact x_iret rfl rfl (dk zX10_isWay 9 rfl) hc2f
set_option maxRecDepth 20000 in
set_option maxHeartbeats 2000000 in
theorem gX10_stampWay_0 {E : EV} {Q : Po} {μ : Mem} {x1 : Int32} {x2 : Nat} (hk2 : kd x2 = 5) (h : Sp E MX5_empty [.ref x2] μ (fun v m1 => v = none ∧ Sp E MX10_isWay [.int x1] m1 (fun v m2 => ∃ r3 : Int32, v = some (.int r3) ∧ ((r3 = 0 → Q none m2) ∧ (¬ r3 = 0 → vp_in x1 4 ∧ (Sp E MX10_wayFault [.ref 0, .ref (115 + 2 * x1.toNatClampNeg)] m2 (fun v m6 => ∃ r7 : Int32, v = some (.int r7) ∧ ((r7 = ((-1)) → Ex E MX10_stampWay Q 28 [(0, .ref 0), (1, .int x1), (2, .ref x2), (3, .int 0)] [] m6) ∧ (¬ r7 = ((-1)) → Q none m6))))))))) : Ex E MX10_stampWay Q 0 [(0, .ref 0), (1, .int x1), (2, .ref x2)] [] μ := by
  refine x_aload_n 2 rfl rfl (dk zX10_stampWay 0 rfl) ?_
  refine x_callV (as := []) (o := x2) (ci := 5) (st := []) rfl okRX10_200 npX5_empty ⟨Nat.le_of_ble_eq_true rfl, Nat.le_of_ble_eq_true rfl⟩ hk2 (by decide) rfl (Nat.le_of_ble_eq_true rfl) (dk zX10_stampWay 1 rfl) ?_
  refine h.mono ?_
  rintro _ m1 ⟨rfl, hm1⟩
  show Ex E MX10_stampWay Q 4 [(0, .ref 0), (1, .int x1), (2, .ref x2)] [] m1
  refine x_iload_n 1 rfl rfl (dk zX10_stampWay 2 rfl) ?_
  refine x_callS (as := [.int x1]) (st := []) rfl okRX10_139 npX10_isWay ⟨Nat.le_of_ble_eq_true rfl, Nat.le_of_ble_eq_true rfl⟩ (Nat.le_of_ble_eq_true rfl) (dk zX10_stampWay 3 rfl) ?_
  refine hm1.mono ?_
  rintro _ m2 ⟨r3, rfl, hm2⟩
  show Ex E MX10_stampWay Q 8 [(0, .ref 0), (1, .int x1), (2, .ref x2)] [.int r3] m2
  refine x_if_eq (tgt := 25) (by decide) (dk zX10_stampWay 4 rfl) (fun c4 => ?_) (fun c4 => ?_)
  · have hc4t := hm2.1 c4
    exact x_vret rfl (dk zX10_stampWay 13 rfl) hc4t
  · have hc4f := hm2.2 c4
    refine x_aload_n 0 rfl rfl (dk zX10_stampWay 5 rfl) ?_
    refine x_aload_n 0 rfl rfl (dk zX10_stampWay 6 rfl) ?_
    refine gf10_1 (r := 3) rfl k0 r0_1 (dk zX10_stampWay 7 rfl) ?_
    refine x_iload_n 1 rfl rfl (dk zX10_stampWay 8 rfl) ?_
    have b5 := hc4f.1
    have hb5 := hc4f.2
    refine y_aaldT (b := 115 + 2 * x1.toNatClampNeg) k3 l3 b5 rfl (dk zX10_stampWay 9 rfl) ?_
    refine x_callV (as := [.ref (115 + 2 * x1.toNatClampNeg)]) (o := 0) (ci := 10) (st := []) rfl okRX10_113 npX10_wayFault ⟨Nat.le_of_ble_eq_true rfl, Nat.le_of_ble_eq_true rfl⟩ k0 (by decide) rfl (Nat.le_of_ble_eq_true rfl) (dk zX10_stampWay 10 rfl) ?_
    refine hb5.mono ?_
    rintro _ m6 ⟨r7, rfl, hm6⟩
    show Ex E MX10_stampWay Q 21 [(0, .ref 0), (1, .int x1), (2, .ref x2)] [.int r7] m6
    refine x_iconst (v := -1) (by decide) (dk zX10_stampWay 11 rfl) ?_
    refine x_icmp_eq (tgt := 26) (by decide) (dk zX10_stampWay 12 rfl) (fun c8 => ?_) (fun c8 => ?_)
    · have hc8t := hm6.1 c8
      refine x_iconst (v := 0) (by decide) (dk zX10_stampWay 14 rfl) ?_
      refine x_istore_n (k := 3) (l' := [(0, .ref 0), (1, .int x1), (2, .ref x2), (3, .int 0)]) [1, 2, 3, 0] rfl rfl (by decide) (dk zX10_stampWay 15 rfl) ?_
      exact hc8t
    · have hc8f := hm6.2 c8
      exact x_vret rfl (dk zX10_stampWay 13 rfl) hc8f
set_option maxRecDepth 20000 in
set_option maxHeartbeats 2000000 in
theorem gX10_stampWay_28 {E : EV} {Q : Po} {μ : Mem} {x1 : Int32} {x2 : Nat} {x3 : Int32} (hk_x2 : kd x2 = 5) (h : vp_in x1 4 ∧ (Sp E MX8_size [.ref (115 + 2 * x1.toNatClampNeg)] μ (fun v m2 => ∃ r3 : Int32, v = some (.int r3) ∧ ((r3 ≤ x3 → Q none m2) ∧ (¬ r3 ≤ x3 → Sp E MX8_at [.ref (115 + 2 * x1.toNatClampNeg), .int x3] m2 (fun v m5 => ∃ r6 : Int32, v = some (.int r6) ∧ Sp E MX3_letterOf [.ref 1, .int r6] m5 (fun v m7 => ∃ r8 : Int32, v = some (.int r8) ∧ Sp E MX3_isWatched [.ref 1, .int r8] m7 (fun v m9 => ∃ r10 : Int32, v = some (.int r10) ∧ ((r10 = 0 → ∀ v12 : Int32, v12 = x3 + 1 → Ex E MX10_stampWay Q 28 [(0, .ref 0), (1, .int x1), (2, .ref x2), (3, .int v12)] [] m9) ∧ (¬ r10 = 0 → Sp E MX5_stamp [.ref x2, .int r8] m9 (fun v m13 => v = none ∧ ∀ v14 : Int32, v14 = x3 + 1 → Ex E MX10_stampWay Q 28 [(0, .ref 0), (1, .int x1), (2, .ref x2), (3, .int v14)] [] m13))))))))))) : Ex E MX10_stampWay Q 28 [(0, .ref 0), (1, .int x1), (2, .ref x2), (3, .int x3)] [] μ := by
  refine x_iload_n 3 rfl rfl (dk zX10_stampWay 16 rfl) ?_
  refine x_aload_n 0 rfl rfl (dk zX10_stampWay 17 rfl) ?_
  refine gf10_1 (r := 3) rfl k0 r0_1 (dk zX10_stampWay 18 rfl) ?_
  refine x_iload_n 1 rfl rfl (dk zX10_stampWay 19 rfl) ?_
  have b1 := h.1
  have hb1 := h.2
  refine y_aaldT (b := 115 + 2 * x1.toNatClampNeg) k3 l3 b1 rfl (dk zX10_stampWay 20 rfl) ?_
  refine x_callV (as := []) (o := 115 + 2 * x1.toNatClampNeg) (ci := 8) (st := [.int x3]) rfl okRX10_103 npX8_size ⟨Nat.le_of_ble_eq_true rfl, Nat.le_of_ble_eq_true rfl⟩ (sTxk b1) (by decide) rfl (Nat.le_of_ble_eq_true rfl) (dk zX10_stampWay 21 rfl) ?_
  refine hb1.mono ?_
  rintro _ m2 ⟨r3, rfl, hm2⟩
  show Ex E MX10_stampWay Q 38 [(0, .ref 0), (1, .int x1), (2, .ref x2), (3, .int x3)] [.int r3, .int x3] m2
  refine x_icmp_ge (tgt := 84) (by decide) (dk zX10_stampWay 22 rfl) (fun c4 => ?_) (fun c4 => ?_)
  · have hc4t := hm2.1 c4
    exact x_vret rfl (dk zX10_stampWay 43 rfl) hc4t
  · have hc4f := hm2.2 c4
    refine x_aload_n 0 rfl rfl (dk zX10_stampWay 23 rfl) ?_
    refine gf10_0 (r := 1) rfl k0 r0_0 (dk zX10_stampWay 24 rfl) ?_
    refine x_aload_n 0 rfl rfl (dk zX10_stampWay 25 rfl) ?_
    refine gf10_1 (r := 3) rfl k0 r0_1 (dk zX10_stampWay 26 rfl) ?_
    refine x_iload_n 1 rfl rfl (dk zX10_stampWay 27 rfl) ?_
    refine y_aaldT (b := 115 + 2 * x1.toNatClampNeg) k3 l3 b1 rfl (dk zX10_stampWay 28 rfl) ?_
    refine x_iload_n 3 rfl rfl (dk zX10_stampWay 29 rfl) ?_
    refine x_callV (as := [.int x3]) (o := 115 + 2 * x1.toNatClampNeg) (ci := 8) (st := [.ref 1]) rfl okRX10_401 npX8_at ⟨Nat.le_of_ble_eq_true rfl, Nat.le_of_ble_eq_true rfl⟩ (sTxk b1) (by decide) rfl (Nat.le_of_ble_eq_true rfl) (dk zX10_stampWay 30 rfl) ?_
    refine hc4f.mono ?_
    rintro _ m5 ⟨r6, rfl, hm5⟩
    show Ex E MX10_stampWay Q 55 [(0, .ref 0), (1, .int x1), (2, .ref x2), (3, .int x3)] [.int r6, .ref 1] m5
    refine x_callV (as := [.int r6]) (o := 1) (ci := 3) (st := []) rfl okRX10_234 npX3_letterOf ⟨Nat.le_of_ble_eq_true rfl, Nat.le_of_ble_eq_true rfl⟩ k1 (by decide) rfl (Nat.le_of_ble_eq_true rfl) (dk zX10_stampWay 31 rfl) ?_
    refine hm5.mono ?_
    rintro _ m7 ⟨r8, rfl, hm7⟩
    show Ex E MX10_stampWay Q 58 [(0, .ref 0), (1, .int x1), (2, .ref x2), (3, .int x3)] [.int r8] m7
    refine x_istoreG (l' := [(0, .ref 0), (1, .int x1), (2, .ref x2), (3, .int x3), (4, .int r8)]) [1, 2, 3, 4, 0] rfl (by decide) (dk zX10_stampWay 32 rfl) ?_
    refine x_aload_n 0 rfl rfl (dk zX10_stampWay 33 rfl) ?_
    refine gf10_0 (r := 1) rfl k0 r0_0 (dk zX10_stampWay 34 rfl) ?_
    refine x_iload 4 rfl (dk zX10_stampWay 35 rfl) ?_
    refine x_callV (as := [.int r8]) (o := 1) (ci := 3) (st := []) rfl okRX10_127 npX3_isWatched ⟨Nat.le_of_ble_eq_true rfl, Nat.le_of_ble_eq_true rfl⟩ k1 (by decide) rfl (Nat.le_of_ble_eq_true rfl) (dk zX10_stampWay 36 rfl) ?_
    refine hm7.mono ?_
    rintro _ m9 ⟨r10, rfl, hm9⟩
    show Ex E MX10_stampWay Q 69 [(0, .ref 0), (1, .int x1), (2, .ref x2), (3, .int x3), (4, .int r8)] [.int r10] m9
    refine x_if_eq (tgt := 78) (by decide) (dk zX10_stampWay 37 rfl) (fun c11 => ?_) (fun c11 => ?_)
    · have hc11t := hm9.1 c11
      obtain ⟨v12, ev12⟩ : ∃ y : Int32, y = x3 + 1 := ⟨_, rfl⟩
      have hv12 := hc11t v12 ev12
      refine x_iinc (v := v12) (l' := [(0, .ref 0), (1, .int x1), (2, .ref x2), (3, .int v12), (4, .int r8)]) 3 rfl (by rw [ev12]; rfl) [1, 2, 3, 0, 4] rfl (by decide) (dk zX10_stampWay 41 rfl) ?_
      refine x_goto (tgt := 28) (by decide) (dk zX10_stampWay 42 rfl) ?_
      exact x_sub [0, 1, 2, 3] rfl hv12
    · have hc11f := hm9.2 c11
      refine x_aload_n 2 rfl rfl (dk zX10_stampWay 38 rfl) ?_
      refine x_iload 4 rfl (dk zX10_stampWay 39 rfl) ?_
      refine x_callV (as := [.int r8]) (o := x2) (ci := 5) (st := []) rfl okRX10_241 npX5_stamp ⟨Nat.le_of_ble_eq_true rfl, Nat.le_of_ble_eq_true rfl⟩ hk_x2 (by decide) rfl (Nat.le_of_ble_eq_true rfl) (dk zX10_stampWay 40 rfl) ?_
      refine hc11f.mono ?_
      rintro _ m13 ⟨rfl, hm13⟩
      show Ex E MX10_stampWay Q 78 [(0, .ref 0), (1, .int x1), (2, .ref x2), (3, .int x3), (4, .int r8)] [] m13
      obtain ⟨v14, ev14⟩ : ∃ y : Int32, y = x3 + 1 := ⟨_, rfl⟩
      have hv14 := hm13 v14 ev14
      refine x_iinc (v := v14) (l' := [(0, .ref 0), (1, .int x1), (2, .ref x2), (3, .int v14), (4, .int r8)]) 3 rfl (by rw [ev14]; rfl) [1, 2, 3, 0, 4] rfl (by decide) (dk zX10_stampWay 41 rfl) ?_
      refine x_goto (tgt := 28) (by decide) (dk zX10_stampWay 42 rfl) ?_
      exact x_sub [0, 1, 2, 3] rfl hv14
set_option maxRecDepth 20000 in
set_option maxHeartbeats 2000000 in
theorem gX10_byteOf_0 {E : EV} {Q : Po} {μ : Mem} {x0 : Int32} (h : ((¬ x0 = ((-1)) → ((¬ (x0 &&& 1) = 0 → Q (some (.int (65 + (x0 >>> ((1 : Int32) &&& 31))))) μ) ∧ ((x0 &&& 1) = 0 → Q (some (.int (97 + (x0 >>> ((1 : Int32) &&& 31))))) μ))) ∧ (x0 = ((-1)) → Q (some (.int ((-1)))) μ))) : Ex E MX10_byteOf Q 0 [(0, .int x0)] [] μ := by
  refine x_iload_n 0 rfl rfl (dk zX10_byteOf 0 rfl) ?_
  refine x_iconst (v := -1) (by decide) (dk zX10_byteOf 1 rfl) ?_
  refine x_icmp_ne (tgt := 7) (by decide) (dk zX10_byteOf 2 rfl) (fun c1 => ?_) (fun c1 => ?_)
  · have hc1t := h.1 c1
    refine x_iload_n 0 rfl rfl (dk zX10_byteOf 5 rfl) ?_
    refine x_iconst (v := 1) (by decide) (dk zX10_byteOf 6 rfl) ?_
    refine x_iand (dk zX10_byteOf 7 rfl) ?_
    refine x_if_ne (tgt := 18) (by decide) (dk zX10_byteOf 8 rfl) (fun c2 => ?_) (fun c2 => ?_)
    · have hc2t := hc1t.1 c2
      refine x_bipush (v := 65) (by decide) (dk zX10_byteOf 11 rfl) ?_
      refine x_iload_n 0 rfl rfl (dk zX10_byteOf 12 rfl) ?_
      refine x_iconst (v := 1) (by decide) (dk zX10_byteOf 13 rfl) ?_
      refine x_ishr (dk zX10_byteOf 14 rfl) ?_
      refine x_iadd (dk zX10_byteOf 15 rfl) ?_
      exact x_iret (ty := .int) rfl rfl (dk zX10_byteOf 16 rfl) hc2t
    · have hc2f := hc1t.2 c2
      refine x_bipush (v := 97) (by decide) (dk zX10_byteOf 9 rfl) ?_
      refine x_goto (tgt := 20) (by decide) (dk zX10_byteOf 10 rfl) ?_
      refine x_iload_n 0 rfl rfl (dk zX10_byteOf 12 rfl) ?_
      refine x_iconst (v := 1) (by decide) (dk zX10_byteOf 13 rfl) ?_
      refine x_ishr (dk zX10_byteOf 14 rfl) ?_
      refine x_iadd (dk zX10_byteOf 15 rfl) ?_
      exact x_iret (ty := .int) rfl rfl (dk zX10_byteOf 16 rfl) hc2f
  · have hc1f := h.2 c1
    refine x_iconst (v := -1) (by decide) (dk zX10_byteOf 3 rfl) ?_
    exact x_iret (ty := .int) rfl rfl (dk zX10_byteOf 4 rfl) hc1f
set_option maxRecDepth 20000 in
set_option maxHeartbeats 2000000 in
theorem gX10_paper_0 {E : EV} {Q : Po} {μ : Mem} {x1 : Int32} {x2 : Int32} (h : Sp E MX10_isWay [.int x1] μ (fun v m1 => ∃ r2 : Int32, v = some (.int r2) ∧ ((r2 = 0 → Q (some (.int ((-2)))) m1) ∧ (¬ r2 = 0 → ((((-1)) ≤ x2 → Sp E MX10_stampWay [.ref 0, .int x1, .ref 4] m1 (fun v m5 => v = none ∧ ((¬ x2 = ((-1)) → Sp E MX5_at [.ref 4, .int x2] m5 (fun v m7 => ∃ r8 : Int32, v = some (.int r8) ∧ Sp E MX10_byteOf [.int r8] m7 (fun v m9 => ∃ r10 : Int32, v = some (.int r10) ∧ Q (some (.int r10)) m9))) ∧ (x2 = ((-1)) → Sp E MX5_size [.ref 4] m5 (fun v m11 => ∃ r12 : Int32, v = some (.int r12) ∧ Q (some (.int r12)) m11))))) ∧ (¬ ((-1)) ≤ x2 → Q (some (.int ((-2)))) m1)))))) : Ex E MX10_paper Q 0 [(0, .ref 0), (1, .int x1), (2, .int x2)] [] μ := by
  refine x_iload_n 1 rfl rfl (dk zX10_paper 0 rfl) ?_
  refine x_callS (as := [.int x1]) (st := []) rfl okRX10_139 npX10_isWay ⟨Nat.le_of_ble_eq_true rfl, Nat.le_of_ble_eq_true rfl⟩ (Nat.le_of_ble_eq_true rfl) (dk zX10_paper 1 rfl) ?_
  refine h.mono ?_
  rintro _ m1 ⟨r2, rfl, hm1⟩
  show Ex E MX10_paper Q 4 [(0, .ref 0), (1, .int x1), (2, .int x2)] [.int r2] m1
  refine x_if_eq (tgt := 12) (by decide) (dk zX10_paper 2 rfl) (fun c3 => ?_) (fun c3 => ?_)
  · have hc3t := hm1.1 c3
    refine x_bipush (v := -2) (by decide) (dk zX10_paper 6 rfl) ?_
    exact x_iret (ty := .int) rfl rfl (dk zX10_paper 7 rfl) hc3t
  · have hc3f := hm1.2 c3
    refine x_iload_n 2 rfl rfl (dk zX10_paper 3 rfl) ?_
    refine x_iconst (v := -1) (by decide) (dk zX10_paper 4 rfl) ?_
    refine x_icmp_ge (tgt := 15) (by decide) (dk zX10_paper 5 rfl) (fun c4 => ?_) (fun c4 => ?_)
    · have hc4t := hc3f.1 c4
      refine x_aload_n 0 rfl rfl (dk zX10_paper 8 rfl) ?_
      refine x_iload_n 1 rfl rfl (dk zX10_paper 9 rfl) ?_
      refine x_aload_n 0 rfl rfl (dk zX10_paper 10 rfl) ?_
      refine gf10_2 (r := 4) rfl k0 r0_2 (dk zX10_paper 11 rfl) ?_
      refine x_callV (as := [.int x1, .ref 4]) (o := 0) (ci := 10) (st := []) rfl okRX10_142 npX10_stampWay ⟨Nat.le_of_ble_eq_true rfl, Nat.le_of_ble_eq_true rfl⟩ k0 (by decide) rfl (Nat.le_of_ble_eq_true rfl) (dk zX10_paper 12 rfl) ?_
      refine hc4t.mono ?_
      rintro _ m5 ⟨rfl, hm5⟩
      show Ex E MX10_paper Q 24 [(0, .ref 0), (1, .int x1), (2, .int x2)] [] m5
      refine x_iload_n 2 rfl rfl (dk zX10_paper 13 rfl) ?_
      refine x_iconst (v := -1) (by decide) (dk zX10_paper 14 rfl) ?_
      refine x_icmp_ne (tgt := 39) (by decide) (dk zX10_paper 15 rfl) (fun c6 => ?_) (fun c6 => ?_)
      · have hc6t := hm5.1 c6
        refine x_aload_n 0 rfl rfl (dk zX10_paper 20 rfl) ?_
        refine gf10_2 (r := 4) rfl k0 r0_2 (dk zX10_paper 21 rfl) ?_
        refine x_iload_n 2 rfl rfl (dk zX10_paper 22 rfl) ?_
        refine x_callV (as := [.int x2]) (o := 4) (ci := 5) (st := []) rfl okRX10_147 npX5_at ⟨Nat.le_of_ble_eq_true rfl, Nat.le_of_ble_eq_true rfl⟩ k4 (by decide) rfl (Nat.le_of_ble_eq_true rfl) (dk zX10_paper 23 rfl) ?_
        refine hc6t.mono ?_
        rintro _ m7 ⟨r8, rfl, hm7⟩
        show Ex E MX10_paper Q 47 [(0, .ref 0), (1, .int x1), (2, .int x2)] [.int r8] m7
        refine x_callS (as := [.int r8]) (st := []) rfl okRX10_150 npX10_byteOf ⟨Nat.le_of_ble_eq_true rfl, Nat.le_of_ble_eq_true rfl⟩ (Nat.le_of_ble_eq_true rfl) (dk zX10_paper 24 rfl) ?_
        refine hm7.mono ?_
        rintro _ m9 ⟨r10, rfl, hm9⟩
        show Ex E MX10_paper Q 50 [(0, .ref 0), (1, .int x1), (2, .int x2)] [.int r10] m9
        exact x_iret (ty := .int) rfl rfl (dk zX10_paper 25 rfl) hm9
      · have hc6f := hm5.2 c6
        refine x_aload_n 0 rfl rfl (dk zX10_paper 16 rfl) ?_
        refine gf10_2 (r := 4) rfl k0 r0_2 (dk zX10_paper 17 rfl) ?_
        refine x_callV (as := []) (o := 4) (ci := 5) (st := []) rfl okRX10_146 npX5_size ⟨Nat.le_of_ble_eq_true rfl, Nat.le_of_ble_eq_true rfl⟩ k4 (by decide) rfl (Nat.le_of_ble_eq_true rfl) (dk zX10_paper 18 rfl) ?_
        refine hc6f.mono ?_
        rintro _ m11 ⟨r12, rfl, hm11⟩
        show Ex E MX10_paper Q 36 [(0, .ref 0), (1, .int x1), (2, .int x2)] [.int r12] m11
        refine x_goto (tgt := 50) (by decide) (dk zX10_paper 19 rfl) ?_
        exact x_iret (ty := .int) rfl rfl (dk zX10_paper 25 rfl) hm11
    · have hc4f := hc3f.2 c4
      refine x_bipush (v := -2) (by decide) (dk zX10_paper 6 rfl) ?_
      exact x_iret (ty := .int) rfl rfl (dk zX10_paper 7 rfl) hc4f
set_option maxRecDepth 20000 in
set_option maxHeartbeats 2000000 in
theorem gX10_isWayOrClean_0 {E : EV} {Q : Po} {μ : Mem} {x0 : Int32} (h : ((x0 < 0 → Q (some (.int 0)) μ) ∧ (¬ x0 < 0 → ((4 ≤ x0 → Q (some (.int 0)) μ) ∧ (¬ 4 ≤ x0 → Q (some (.int 1)) μ))))) : Ex E MX10_isWayOrClean Q 0 [(0, .int x0)] [] μ := by
  refine x_iload_n 0 rfl rfl (dk zX10_isWayOrClean 0 rfl) ?_
  refine x_if_lt (tgt := 13) (by decide) (dk zX10_isWayOrClean 1 rfl) (fun c1 => ?_) (fun c1 => ?_)
  · have hc1t := h.1 c1
    refine x_iconst (v := 0) (by decide) (dk zX10_isWayOrClean 7 rfl) ?_
    exact x_iret rfl rfl (dk zX10_isWayOrClean 8 rfl) hc1t
  · have hc1f := h.2 c1
    refine x_iload_n 0 rfl rfl (dk zX10_isWayOrClean 2 rfl) ?_
    refine x_iconst (v := 4) (by decide) (dk zX10_isWayOrClean 3 rfl) ?_
    refine x_icmp_ge (tgt := 13) (by decide) (dk zX10_isWayOrClean 4 rfl) (fun c2 => ?_) (fun c2 => ?_)
    · have hc2t := hc1f.1 c2
      refine x_iconst (v := 0) (by decide) (dk zX10_isWayOrClean 7 rfl) ?_
      exact x_iret rfl rfl (dk zX10_isWayOrClean 8 rfl) hc2t
    · have hc2f := hc1f.2 c2
      refine x_iconst (v := 1) (by decide) (dk zX10_isWayOrClean 5 rfl) ?_
      refine x_goto (tgt := 14) (by decide) (dk zX10_isWayOrClean 6 rfl) ?_
      exact x_iret rfl rfl (dk zX10_isWayOrClean 8 rfl) hc2f
set_option maxRecDepth 20000 in
set_option maxHeartbeats 2000000 in
theorem gX10_judgeWay_0 {E : EV} {Q : Po} {μ : Mem} {x1 : Int32} {x2 : Int32} {x3 : Int32} (h : Sp E MX2_onPaper [.ref 8] μ (fun v m1 => v = some (.ref 9) ∧ Sp E MX10_stampWay [.ref 0, .int x3, .ref 9] m1 (fun v m2 => v = none ∧ Sp E MX2_begin [.ref 8, .int x2] m2 (fun v m3 => v = none ∧ vp_in x1 4 ∧ (Sp E MX10_wayFault [.ref 0, .ref (115 + 2 * x1.toNatClampNeg)] m3 (fun v m5 => ∃ r6 : Int32, v = some (.int r6) ∧ ((¬ r6 = ((-1)) → Q none m5) ∧ (r6 = ((-1)) → Sp E MX2_follow [.ref 8, .ref (115 + 2 * x1.toNatClampNeg)] m5 (fun v m8 => v = none ∧ Q none m8))))))))) : Ex E MX10_judgeWay Q 0 [(0, .ref 0), (1, .int x1), (2, .int x2), (3, .int x3)] [] μ := by
  refine x_aload_n 0 rfl rfl (dk zX10_judgeWay 0 rfl) ?_
  refine x_iload_n 3 rfl rfl (dk zX10_judgeWay 1 rfl) ?_
  refine x_aload_n 0 rfl rfl (dk zX10_judgeWay 2 rfl) ?_
  refine gf10_4 (r := 8) rfl k0 r0_4 (dk zX10_judgeWay 3 rfl) ?_
  refine x_callV (as := []) (o := 8) (ci := 2) (st := [.int x3, .ref 0]) rfl okRX10_402 npX2_onPaper ⟨Nat.le_of_ble_eq_true rfl, Nat.le_of_ble_eq_true rfl⟩ k8 (by decide) rfl (Nat.le_of_ble_eq_true rfl) (dk zX10_judgeWay 4 rfl) ?_
  refine h.mono ?_
  rintro _ m1 ⟨rfl, hm1⟩
  show Ex E MX10_judgeWay Q 9 [(0, .ref 0), (1, .int x1), (2, .int x2), (3, .int x3)] [.ref 9, .int x3, .ref 0] m1
  refine x_callV (as := [.int x3, .ref 9]) (o := 0) (ci := 10) (st := []) rfl okRX10_142 npX10_stampWay ⟨Nat.le_of_ble_eq_true rfl, Nat.le_of_ble_eq_true rfl⟩ k0 (by decide) rfl (Nat.le_of_ble_eq_true rfl) (dk zX10_judgeWay 5 rfl) ?_
  refine hm1.mono ?_
  rintro _ m2 ⟨rfl, hm2⟩
  show Ex E MX10_judgeWay Q 12 [(0, .ref 0), (1, .int x1), (2, .int x2), (3, .int x3)] [] m2
  refine x_aload_n 0 rfl rfl (dk zX10_judgeWay 6 rfl) ?_
  refine gf10_4 (r := 8) rfl k0 r0_4 (dk zX10_judgeWay 7 rfl) ?_
  refine x_iload_n 2 rfl rfl (dk zX10_judgeWay 8 rfl) ?_
  refine x_callV (as := [.int x2]) (o := 8) (ci := 2) (st := []) rfl okRX10_406 npX2_begin ⟨Nat.le_of_ble_eq_true rfl, Nat.le_of_ble_eq_true rfl⟩ k8 (by decide) rfl (Nat.le_of_ble_eq_true rfl) (dk zX10_judgeWay 9 rfl) ?_
  refine hm2.mono ?_
  rintro _ m3 ⟨rfl, hm3⟩
  show Ex E MX10_judgeWay Q 20 [(0, .ref 0), (1, .int x1), (2, .int x2), (3, .int x3)] [] m3
  refine x_aload_n 0 rfl rfl (dk zX10_judgeWay 10 rfl) ?_
  refine x_aload_n 0 rfl rfl (dk zX10_judgeWay 11 rfl) ?_
  refine gf10_1 (r := 3) rfl k0 r0_1 (dk zX10_judgeWay 12 rfl) ?_
  refine x_iload_n 1 rfl rfl (dk zX10_judgeWay 13 rfl) ?_
  have b4 := hm3.1
  have hb4 := hm3.2
  refine y_aaldT (b := 115 + 2 * x1.toNatClampNeg) k3 l3 b4 rfl (dk zX10_judgeWay 14 rfl) ?_
  refine x_callV (as := [.ref (115 + 2 * x1.toNatClampNeg)]) (o := 0) (ci := 10) (st := []) rfl okRX10_113 npX10_wayFault ⟨Nat.le_of_ble_eq_true rfl, Nat.le_of_ble_eq_true rfl⟩ k0 (by decide) rfl (Nat.le_of_ble_eq_true rfl) (dk zX10_judgeWay 15 rfl) ?_
  refine hb4.mono ?_
  rintro _ m5 ⟨r6, rfl, hm5⟩
  show Ex E MX10_judgeWay Q 30 [(0, .ref 0), (1, .int x1), (2, .int x2), (3, .int x3)] [.int r6] m5
  refine x_iconst (v := -1) (by decide) (dk zX10_judgeWay 16 rfl) ?_
  refine x_icmp_ne (tgt := 47) (by decide) (dk zX10_judgeWay 17 rfl) (fun c7 => ?_) (fun c7 => ?_)
  · have hc7t := hm5.1 c7
    exact x_vret rfl (dk zX10_judgeWay 25 rfl) hc7t
  · have hc7f := hm5.2 c7
    refine x_aload_n 0 rfl rfl (dk zX10_judgeWay 18 rfl) ?_
    refine gf10_4 (r := 8) rfl k0 r0_4 (dk zX10_judgeWay 19 rfl) ?_
    refine x_aload_n 0 rfl rfl (dk zX10_judgeWay 20 rfl) ?_
    refine gf10_1 (r := 3) rfl k0 r0_1 (dk zX10_judgeWay 21 rfl) ?_
    refine x_iload_n 1 rfl rfl (dk zX10_judgeWay 22 rfl) ?_
    refine y_aaldT (b := 115 + 2 * x1.toNatClampNeg) k3 l3 b4 rfl (dk zX10_judgeWay 23 rfl) ?_
    refine x_callV (as := [.ref (115 + 2 * x1.toNatClampNeg)]) (o := 8) (ci := 2) (st := []) rfl okRX10_409 npX2_follow ⟨Nat.le_of_ble_eq_true rfl, Nat.le_of_ble_eq_true rfl⟩ k8 (by decide) rfl (Nat.le_of_ble_eq_true rfl) (dk zX10_judgeWay 24 rfl) ?_
    refine hc7f.mono ?_
    rintro _ m8 ⟨rfl, hm8⟩
    show Ex E MX10_judgeWay Q 47 [(0, .ref 0), (1, .int x1), (2, .int x2), (3, .int x3)] [] m8
    exact x_vret rfl (dk zX10_judgeWay 25 rfl) hm8
set_option maxRecDepth 20000 in
set_option maxHeartbeats 2000000 in
theorem gX10_judged_0 {E : EV} {Q : Po} {μ : Mem} {x1 : Int32} {x2 : Int32} {x3 : Int32} {x4 : Int32} (h : Sp E MX10_isWay [.int x1] μ (fun v m1 => ∃ r2 : Int32, v = some (.int r2) ∧ ((r2 = 0 → Q (some (.int ((-2)))) m1) ∧ (¬ r2 = 0 → Sp E MX10_isTown [.int x2] m1 (fun v m4 => ∃ r5 : Int32, v = some (.int r5) ∧ ((r5 = 0 → Q (some (.int ((-2)))) m4) ∧ (¬ r5 = 0 → Sp E MX10_isWayOrClean [.int x3] m4 (fun v m7 => ∃ r8 : Int32, v = some (.int r8) ∧ ((r8 = 0 → Q (some (.int ((-2)))) m7) ∧ (¬ r8 = 0 → ((x4 < 0 → Q (some (.int ((-2)))) m7) ∧ (¬ x4 < 0 → ((x4 ≤ 4 → Sp E MX10_judgeWay [.ref 0, .int x1, .int x2, .int x3] m7 (fun v m12 => v = none ∧ Sp E MX2_verdict [.ref 8, .int x4] m12 (fun v m13 => ∃ r14 : Int32, v = some (.int r14) ∧ Q (some (.int r14)) m13))) ∧ (¬ x4 ≤ 4 → Q (some (.int ((-2)))) m7)))))))))))))) : Ex E MX10_judged Q 0 [(0, .ref 0), (1, .int x1), (2, .int x2), (3, .int x3), (4, .int x4)] [] μ := by
  refine x_iload_n 1 rfl rfl (dk zX10_judged 0 rfl) ?_
  refine x_callS (as := [.int x1]) (st := []) rfl okRX10_139 npX10_isWay ⟨Nat.le_of_ble_eq_true rfl, Nat.le_of_ble_eq_true rfl⟩ (Nat.le_of_ble_eq_true rfl) (dk zX10_judged 1 rfl) ?_
  refine h.mono ?_
  rintro _ m1 ⟨r2, rfl, hm1⟩
  show Ex E MX10_judged Q 4 [(0, .ref 0), (1, .int x1), (2, .int x2), (3, .int x3), (4, .int x4)] [.int r2] m1
  refine x_if_eq (tgt := 32) (by decide) (dk zX10_judged 2 rfl) (fun c3 => ?_) (fun c3 => ?_)
  · have hc3t := hm1.1 c3
    refine x_bipush (v := -2) (by decide) (dk zX10_judged 14 rfl) ?_
    exact x_iret (ty := .int) rfl rfl (dk zX10_judged 15 rfl) hc3t
  · have hc3f := hm1.2 c3
    refine x_iload_n 2 rfl rfl (dk zX10_judged 3 rfl) ?_
    refine x_callS (as := [.int x2]) (st := []) rfl okRX10_153 npX10_isTown ⟨Nat.le_of_ble_eq_true rfl, Nat.le_of_ble_eq_true rfl⟩ (Nat.le_of_ble_eq_true rfl) (dk zX10_judged 4 rfl) ?_
    refine hc3f.mono ?_
    rintro _ m4 ⟨r5, rfl, hm4⟩
    show Ex E MX10_judged Q 11 [(0, .ref 0), (1, .int x1), (2, .int x2), (3, .int x3), (4, .int x4)] [.int r5] m4
    refine x_if_eq (tgt := 32) (by decide) (dk zX10_judged 5 rfl) (fun c6 => ?_) (fun c6 => ?_)
    · have hc6t := hm4.1 c6
      refine x_bipush (v := -2) (by decide) (dk zX10_judged 14 rfl) ?_
      exact x_iret (ty := .int) rfl rfl (dk zX10_judged 15 rfl) hc6t
    · have hc6f := hm4.2 c6
      refine x_iload_n 3 rfl rfl (dk zX10_judged 6 rfl) ?_
      refine x_callS (as := [.int x3]) (st := []) rfl okRX10_156 npX10_isWayOrClean ⟨Nat.le_of_ble_eq_true rfl, Nat.le_of_ble_eq_true rfl⟩ (Nat.le_of_ble_eq_true rfl) (dk zX10_judged 7 rfl) ?_
      refine hc6f.mono ?_
      rintro _ m7 ⟨r8, rfl, hm7⟩
      show Ex E MX10_judged Q 18 [(0, .ref 0), (1, .int x1), (2, .int x2), (3, .int x3), (4, .int x4)] [.int r8] m7
      refine x_if_eq (tgt := 32) (by decide) (dk zX10_judged 8 rfl) (fun c9 => ?_) (fun c9 => ?_)
      · have hc9t := hm7.1 c9
        refine x_bipush (v := -2) (by decide) (dk zX10_judged 14 rfl) ?_
        exact x_iret (ty := .int) rfl rfl (dk zX10_judged 15 rfl) hc9t
      · have hc9f := hm7.2 c9
        refine x_iload 4 rfl (dk zX10_judged 9 rfl) ?_
        refine x_if_lt (tgt := 32) (by decide) (dk zX10_judged 10 rfl) (fun c10 => ?_) (fun c10 => ?_)
        · have hc10t := hc9f.1 c10
          refine x_bipush (v := -2) (by decide) (dk zX10_judged 14 rfl) ?_
          exact x_iret (ty := .int) rfl rfl (dk zX10_judged 15 rfl) hc10t
        · have hc10f := hc9f.2 c10
          refine x_iload 4 rfl (dk zX10_judged 11 rfl) ?_
          refine x_iconst (v := 4) (by decide) (dk zX10_judged 12 rfl) ?_
          refine x_icmp_le (tgt := 35) (by decide) (dk zX10_judged 13 rfl) (fun c11 => ?_) (fun c11 => ?_)
          · have hc11t := hc10f.1 c11
            refine x_aload_n 0 rfl rfl (dk zX10_judged 16 rfl) ?_
            refine x_iload_n 1 rfl rfl (dk zX10_judged 17 rfl) ?_
            refine x_iload_n 2 rfl rfl (dk zX10_judged 18 rfl) ?_
            refine x_iload_n 3 rfl rfl (dk zX10_judged 19 rfl) ?_
            refine x_callV (as := [.int x1, .int x2, .int x3]) (o := 0) (ci := 10) (st := []) rfl okRX10_159 npX10_judgeWay ⟨Nat.le_of_ble_eq_true rfl, Nat.le_of_ble_eq_true rfl⟩ k0 (by decide) rfl (Nat.le_of_ble_eq_true rfl) (dk zX10_judged 20 rfl) ?_
            refine hc11t.mono ?_
            rintro _ m12 ⟨rfl, hm12⟩
            show Ex E MX10_judged Q 42 [(0, .ref 0), (1, .int x1), (2, .int x2), (3, .int x3), (4, .int x4)] [] m12
            refine x_aload_n 0 rfl rfl (dk zX10_judged 21 rfl) ?_
            refine gf10_4 (r := 8) rfl k0 r0_4 (dk zX10_judged 22 rfl) ?_
            refine x_iload 4 rfl (dk zX10_judged 23 rfl) ?_
            refine x_callV (as := [.int x4]) (o := 8) (ci := 2) (st := []) rfl okRX10_163 npX2_verdict ⟨Nat.le_of_ble_eq_true rfl, Nat.le_of_ble_eq_true rfl⟩ k8 (by decide) rfl (Nat.le_of_ble_eq_true rfl) (dk zX10_judged 24 rfl) ?_
            refine hm12.mono ?_
            rintro _ m13 ⟨r14, rfl, hm13⟩
            show Ex E MX10_judged Q 51 [(0, .ref 0), (1, .int x1), (2, .int x2), (3, .int x3), (4, .int x4)] [.int r14] m13
            exact x_iret (ty := .int) rfl rfl (dk zX10_judged 25 rfl) hm13
          · have hc11f := hc10f.2 c11
            refine x_bipush (v := -2) (by decide) (dk zX10_judged 14 rfl) ?_
            exact x_iret (ty := .int) rfl rfl (dk zX10_judged 15 rfl) hc11f
set_option maxRecDepth 20000 in
set_option maxHeartbeats 2000000 in
theorem gX10_same_0 {E : EV} {Q : Po} {μ : Mem} {x1 : Int32} {x2 : Int32} (h : Sp E MX10_isWay [.int x1] μ (fun v m1 => ∃ r2 : Int32, v = some (.int r2) ∧ ((r2 = 0 → Q (some (.int ((-2)))) m1) ∧ (¬ r2 = 0 → Sp E MX10_isWay [.int x2] m1 (fun v m4 => ∃ r5 : Int32, v = some (.int r5) ∧ ((¬ r5 = 0 → Sp E MX10_stampWay [.ref 0, .int x1, .ref 4] m4 (fun v m7 => v = none ∧ Sp E MX10_stampWay [.ref 0, .int x2, .ref 6] m7 (fun v m8 => v = none ∧ Sp E MX5_alike [.ref 4, .ref 6] m8 (fun v m9 => ∃ r10 : Int32, v = some (.int r10) ∧ Sp E MX5_size [.ref 4] m9 (fun v m11 => ∃ r12 : Int32, v = some (.int r12) ∧ ((¬ r10 = r12 → Q (some (.int 0)) m11) ∧ (r10 = r12 → Sp E MX5_size [.ref 6] m11 (fun v m14 => ∃ r15 : Int32, v = some (.int r15) ∧ ((¬ r10 = r15 → Q (some (.int 0)) m14) ∧ (r10 = r15 → Q (some (.int 1)) m14)))))))))) ∧ (r5 = 0 → Q (some (.int ((-2)))) m4))))))) : Ex E MX10_same Q 0 [(0, .ref 0), (1, .int x1), (2, .int x2)] [] μ := by
  refine x_iload_n 1 rfl rfl (dk zX10_same 0 rfl) ?_
  refine x_callS (as := [.int x1]) (st := []) rfl okRX10_139 npX10_isWay ⟨Nat.le_of_ble_eq_true rfl, Nat.le_of_ble_eq_true rfl⟩ (Nat.le_of_ble_eq_true rfl) (dk zX10_same 1 rfl) ?_
  refine h.mono ?_
  rintro _ m1 ⟨r2, rfl, hm1⟩
  show Ex E MX10_same Q 4 [(0, .ref 0), (1, .int x1), (2, .int x2)] [.int r2] m1
  refine x_if_eq (tgt := 14) (by decide) (dk zX10_same 2 rfl) (fun c3 => ?_) (fun c3 => ?_)
  · have hc3t := hm1.1 c3
    refine x_bipush (v := -2) (by decide) (dk zX10_same 6 rfl) ?_
    exact x_iret (ty := .int) rfl rfl (dk zX10_same 7 rfl) hc3t
  · have hc3f := hm1.2 c3
    refine x_iload_n 2 rfl rfl (dk zX10_same 3 rfl) ?_
    refine x_callS (as := [.int x2]) (st := []) rfl okRX10_139 npX10_isWay ⟨Nat.le_of_ble_eq_true rfl, Nat.le_of_ble_eq_true rfl⟩ (Nat.le_of_ble_eq_true rfl) (dk zX10_same 4 rfl) ?_
    refine hc3f.mono ?_
    rintro _ m4 ⟨r5, rfl, hm4⟩
    show Ex E MX10_same Q 11 [(0, .ref 0), (1, .int x1), (2, .int x2)] [.int r5] m4
    refine x_if_ne (tgt := 17) (by decide) (dk zX10_same 5 rfl) (fun c6 => ?_) (fun c6 => ?_)
    · have hc6t := hm4.1 c6
      refine x_aload_n 0 rfl rfl (dk zX10_same 8 rfl) ?_
      refine x_iload_n 1 rfl rfl (dk zX10_same 9 rfl) ?_
      refine x_aload_n 0 rfl rfl (dk zX10_same 10 rfl) ?_
      refine gf10_2 (r := 4) rfl k0 r0_2 (dk zX10_same 11 rfl) ?_
      refine x_callV (as := [.int x1, .ref 4]) (o := 0) (ci := 10) (st := []) rfl okRX10_142 npX10_stampWay ⟨Nat.le_of_ble_eq_true rfl, Nat.le_of_ble_eq_true rfl⟩ k0 (by decide) rfl (Nat.le_of_ble_eq_true rfl) (dk zX10_same 12 rfl) ?_
      refine hc6t.mono ?_
      rintro _ m7 ⟨rfl, hm7⟩
      show Ex E MX10_same Q 26 [(0, .ref 0), (1, .int x1), (2, .int x2)] [] m7
      refine x_aload_n 0 rfl rfl (dk zX10_same 13 rfl) ?_
      refine x_iload_n 2 rfl rfl (dk zX10_same 14 rfl) ?_
      refine x_aload_n 0 rfl rfl (dk zX10_same 15 rfl) ?_
      refine gf10_3 (r := 6) rfl k0 r0_3 (dk zX10_same 16 rfl) ?_
      refine x_callV (as := [.int x2, .ref 6]) (o := 0) (ci := 10) (st := []) rfl okRX10_142 npX10_stampWay ⟨Nat.le_of_ble_eq_true rfl, Nat.le_of_ble_eq_true rfl⟩ k0 (by decide) rfl (Nat.le_of_ble_eq_true rfl) (dk zX10_same 17 rfl) ?_
      refine hm7.mono ?_
      rintro _ m8 ⟨rfl, hm8⟩
      show Ex E MX10_same Q 35 [(0, .ref 0), (1, .int x1), (2, .int x2)] [] m8
      refine x_aload_n 0 rfl rfl (dk zX10_same 18 rfl) ?_
      refine gf10_2 (r := 4) rfl k0 r0_2 (dk zX10_same 19 rfl) ?_
      refine x_aload_n 0 rfl rfl (dk zX10_same 20 rfl) ?_
      refine gf10_3 (r := 6) rfl k0 r0_3 (dk zX10_same 21 rfl) ?_
      refine x_callV (as := [.ref 6]) (o := 4) (ci := 5) (st := []) rfl okRX10_166 npX5_alike ⟨Nat.le_of_ble_eq_true rfl, Nat.le_of_ble_eq_true rfl⟩ k4 (by decide) rfl (Nat.le_of_ble_eq_true rfl) (dk zX10_same 22 rfl) ?_
      refine hm8.mono ?_
      rintro _ m9 ⟨r10, rfl, hm9⟩
      show Ex E MX10_same Q 46 [(0, .ref 0), (1, .int x1), (2, .int x2)] [.int r10] m9
      refine x_istore_n (k := 3) (l' := [(0, .ref 0), (1, .int x1), (2, .int x2), (3, .int r10)]) [1, 2, 3, 0] rfl rfl (by decide) (dk zX10_same 23 rfl) ?_
      refine x_iload_n 3 rfl rfl (dk zX10_same 24 rfl) ?_
      refine x_aload_n 0 rfl rfl (dk zX10_same 25 rfl) ?_
      refine gf10_2 (r := 4) rfl k0 r0_2 (dk zX10_same 26 rfl) ?_
      refine x_callV (as := []) (o := 4) (ci := 5) (st := [.int r10]) rfl okRX10_146 npX5_size ⟨Nat.le_of_ble_eq_true rfl, Nat.le_of_ble_eq_true rfl⟩ k4 (by decide) rfl (Nat.le_of_ble_eq_true rfl) (dk zX10_same 27 rfl) ?_
      refine hm9.mono ?_
      rintro _ m11 ⟨r12, rfl, hm11⟩
      show Ex E MX10_same Q 55 [(0, .ref 0), (1, .int x1), (2, .int x2), (3, .int r10)] [.int r12, .int r10] m11
      refine x_icmp_ne (tgt := 73) (by decide) (dk zX10_same 28 rfl) (fun c13 => ?_) (fun c13 => ?_)
      · have hc13t := hm11.1 c13
        refine x_iconst (v := 0) (by decide) (dk zX10_same 36 rfl) ?_
        exact x_iret (ty := .int) rfl rfl (dk zX10_same 37 rfl) hc13t
      · have hc13f := hm11.2 c13
        refine x_iload_n 3 rfl rfl (dk zX10_same 29 rfl) ?_
        refine x_aload_n 0 rfl rfl (dk zX10_same 30 rfl) ?_
        refine gf10_3 (r := 6) rfl k0 r0_3 (dk zX10_same 31 rfl) ?_
        refine x_callV (as := []) (o := 6) (ci := 5) (st := [.int r10]) rfl okRX10_146 npX5_size ⟨Nat.le_of_ble_eq_true rfl, Nat.le_of_ble_eq_true rfl⟩ k6 (by decide) rfl (Nat.le_of_ble_eq_true rfl) (dk zX10_same 32 rfl) ?_
        refine hc13f.mono ?_
        rintro _ m14 ⟨r15, rfl, hm14⟩
        show Ex E MX10_same Q 66 [(0, .ref 0), (1, .int x1), (2, .int x2), (3, .int r10)] [.int r15, .int r10] m14
        refine x_icmp_ne (tgt := 73) (by decide) (dk zX10_same 33 rfl) (fun c16 => ?_) (fun c16 => ?_)
        · have hc16t := hm14.1 c16
          refine x_iconst (v := 0) (by decide) (dk zX10_same 36 rfl) ?_
          exact x_iret (ty := .int) rfl rfl (dk zX10_same 37 rfl) hc16t
        · have hc16f := hm14.2 c16
          refine x_iconst (v := 1) (by decide) (dk zX10_same 34 rfl) ?_
          refine x_goto (tgt := 74) (by decide) (dk zX10_same 35 rfl) ?_
          exact x_iret (ty := .int) rfl rfl (dk zX10_same 37 rfl) hc16f
    · have hc6f := hm4.2 c6
      refine x_bipush (v := -2) (by decide) (dk zX10_same 6 rfl) ?_
      exact x_iret (ty := .int) rfl rfl (dk zX10_same 7 rfl) hc6f
set_option maxRecDepth 20000 in
set_option maxHeartbeats 2000000 in
theorem gX10_areEnds_0 {E : EV} {Q : Po} {μ : Mem} {x0 : Int32} {x1 : Int32} {x2 : Int32} {x3 : Int32} (h : Sp E MX10_isTown [.int x0] μ (fun v m1 => ∃ r2 : Int32, v = some (.int r2) ∧ ((r2 = 0 → Q (some (.int 0)) m1) ∧ (¬ r2 = 0 → Sp E MX10_isWayOrClean [.int x1] m1 (fun v m4 => ∃ r5 : Int32, v = some (.int r5) ∧ ((r5 = 0 → Q (some (.int 0)) m4) ∧ (¬ r5 = 0 → Sp E MX10_isTown [.int x2] m4 (fun v m7 => ∃ r8 : Int32, v = some (.int r8) ∧ ((r8 = 0 → Q (some (.int 0)) m7) ∧ (¬ r8 = 0 → Sp E MX10_isWayOrClean [.int x3] m7 (fun v m10 => ∃ r11 : Int32, v = some (.int r11) ∧ ((r11 = 0 → Q (some (.int 0)) m10) ∧ (¬ r11 = 0 → Q (some (.int 1)) m10))))))))))))) : Ex E MX10_areEnds Q 0 [(0, .int x0), (1, .int x1), (2, .int x2), (3, .int x3)] [] μ := by
  refine x_iload_n 0 rfl rfl (dk zX10_areEnds 0 rfl) ?_
  refine x_callS (as := [.int x0]) (st := []) rfl okRX10_153 npX10_isTown ⟨Nat.le_of_ble_eq_true rfl, Nat.le_of_ble_eq_true rfl⟩ (Nat.le_of_ble_eq_true rfl) (dk zX10_areEnds 1 rfl) ?_
  refine h.mono ?_
  rintro _ m1 ⟨r2, rfl, hm1⟩
  show Ex E MX10_areEnds Q 4 [(0, .int x0), (1, .int x1), (2, .int x2), (3, .int x3)] [.int r2] m1
  refine x_if_eq (tgt := 32) (by decide) (dk zX10_areEnds 2 rfl) (fun c3 => ?_) (fun c3 => ?_)
  · have hc3t := hm1.1 c3
    refine x_iconst (v := 0) (by decide) (dk zX10_areEnds 14 rfl) ?_
    exact x_iret rfl rfl (dk zX10_areEnds 15 rfl) hc3t
  · have hc3f := hm1.2 c3
    refine x_iload_n 1 rfl rfl (dk zX10_areEnds 3 rfl) ?_
    refine x_callS (as := [.int x1]) (st := []) rfl okRX10_156 npX10_isWayOrClean ⟨Nat.le_of_ble_eq_true rfl, Nat.le_of_ble_eq_true rfl⟩ (Nat.le_of_ble_eq_true rfl) (dk zX10_areEnds 4 rfl) ?_
    refine hc3f.mono ?_
    rintro _ m4 ⟨r5, rfl, hm4⟩
    show Ex E MX10_areEnds Q 11 [(0, .int x0), (1, .int x1), (2, .int x2), (3, .int x3)] [.int r5] m4
    refine x_if_eq (tgt := 32) (by decide) (dk zX10_areEnds 5 rfl) (fun c6 => ?_) (fun c6 => ?_)
    · have hc6t := hm4.1 c6
      refine x_iconst (v := 0) (by decide) (dk zX10_areEnds 14 rfl) ?_
      exact x_iret rfl rfl (dk zX10_areEnds 15 rfl) hc6t
    · have hc6f := hm4.2 c6
      refine x_iload_n 2 rfl rfl (dk zX10_areEnds 6 rfl) ?_
      refine x_callS (as := [.int x2]) (st := []) rfl okRX10_153 npX10_isTown ⟨Nat.le_of_ble_eq_true rfl, Nat.le_of_ble_eq_true rfl⟩ (Nat.le_of_ble_eq_true rfl) (dk zX10_areEnds 7 rfl) ?_
      refine hc6f.mono ?_
      rintro _ m7 ⟨r8, rfl, hm7⟩
      show Ex E MX10_areEnds Q 18 [(0, .int x0), (1, .int x1), (2, .int x2), (3, .int x3)] [.int r8] m7
      refine x_if_eq (tgt := 32) (by decide) (dk zX10_areEnds 8 rfl) (fun c9 => ?_) (fun c9 => ?_)
      · have hc9t := hm7.1 c9
        refine x_iconst (v := 0) (by decide) (dk zX10_areEnds 14 rfl) ?_
        exact x_iret rfl rfl (dk zX10_areEnds 15 rfl) hc9t
      · have hc9f := hm7.2 c9
        refine x_iload_n 3 rfl rfl (dk zX10_areEnds 9 rfl) ?_
        refine x_callS (as := [.int x3]) (st := []) rfl okRX10_156 npX10_isWayOrClean ⟨Nat.le_of_ble_eq_true rfl, Nat.le_of_ble_eq_true rfl⟩ (Nat.le_of_ble_eq_true rfl) (dk zX10_areEnds 10 rfl) ?_
        refine hc9f.mono ?_
        rintro _ m10 ⟨r11, rfl, hm10⟩
        show Ex E MX10_areEnds Q 25 [(0, .int x0), (1, .int x1), (2, .int x2), (3, .int x3)] [.int r11] m10
        refine x_if_eq (tgt := 32) (by decide) (dk zX10_areEnds 11 rfl) (fun c12 => ?_) (fun c12 => ?_)
        · have hc12t := hm10.1 c12
          refine x_iconst (v := 0) (by decide) (dk zX10_areEnds 14 rfl) ?_
          exact x_iret rfl rfl (dk zX10_areEnds 15 rfl) hc12t
        · have hc12f := hm10.2 c12
          refine x_iconst (v := 1) (by decide) (dk zX10_areEnds 12 rfl) ?_
          refine x_goto (tgt := 33) (by decide) (dk zX10_areEnds 13 rfl) ?_
          exact x_iret rfl rfl (dk zX10_areEnds 15 rfl) hc12f
set_option maxRecDepth 20000 in
set_option maxHeartbeats 2000000 in
theorem gX10_longRefusal_0 {E : EV} {Q : Po} {μ : Mem} {x0 : Int32} (h : Q (some (.long (((-9223372036854775808)) - (Int32.toInt64 x0)))) μ) : Ex E MX10_longRefusal Q 0 [(0, .int x0)] [] μ := by
  refine x_ldc2 (v := -9223372036854775808) rfl wkRX10_395 (dk zX10_longRefusal 0 rfl) ?_
  refine x_iload_n 0 rfl rfl (dk zX10_longRefusal 1 rfl) ?_
  refine x_i2l (dk zX10_longRefusal 2 rfl) ?_
  refine x_lsub (dk zX10_longRefusal 3 rfl) ?_
  exact x_lret rfl (dk zX10_longRefusal 4 rfl) h
set_option maxRecDepth 20000 in
set_option maxHeartbeats 2000000 in
theorem gX10_planRoute_0 {E : EV} {Q : Po} {μ : Mem} {x1 : Int32} {x2 : Int32} {x3 : Int32} {x4 : Int32} (h : Sp E MX10_stampWay [.ref 0, .int x2, .ref 4] μ (fun v m1 => v = none ∧ Sp E MX10_stampWay [.ref 0, .int x4, .ref 6] m1 (fun v m2 => v = none ∧ Sp E MX5_size [.ref 4] m2 (fun v m3 => ∃ r4 : Int32, v = some (.int r4) ∧ Sp E MX5_size [.ref 6] m3 (fun v m5 => ∃ r6 : Int32, v = some (.int r6) ∧ Sp E MX3_roomTold [.ref 1] m5 (fun v m7 => ∃ r8 : Int32, v = some (.int r8) ∧ (((if r4 < r6 then r6 else r4) ≤ r8 → Sp E MX6_plan [.ref 11, .ref 4, .ref 6] m7 (fun v m10 => v = none ∧ Sp E MX6_gatesBetween [.ref 11, .int x1, .int x3] m10 (fun v m11 => ∃ r12 : Int32, v = some (.int r12) ∧ Q (some (.int r12)) m11))) ∧ (¬ (if r4 < r6 then r6 else r4) ≤ r8 → Q (some (.int ((-1)))) m7)))))))) : Ex E MX10_planRoute Q 0 [(0, .ref 0), (1, .int x1), (2, .int x2), (3, .int x3), (4, .int x4)] [] μ := by
  refine x_aload_n 0 rfl rfl (dk zX10_planRoute 0 rfl) ?_
  refine x_iload_n 2 rfl rfl (dk zX10_planRoute 1 rfl) ?_
  refine x_aload_n 0 rfl rfl (dk zX10_planRoute 2 rfl) ?_
  refine gf10_2 (r := 4) rfl k0 r0_2 (dk zX10_planRoute 3 rfl) ?_
  refine x_callV (as := [.int x2, .ref 4]) (o := 0) (ci := 10) (st := []) rfl okRX10_142 npX10_stampWay ⟨Nat.le_of_ble_eq_true rfl, Nat.le_of_ble_eq_true rfl⟩ k0 (by decide) rfl (Nat.le_of_ble_eq_true rfl) (dk zX10_planRoute 4 rfl) ?_
  refine h.mono ?_
  rintro _ m1 ⟨rfl, hm1⟩
  show Ex E MX10_planRoute Q 9 [(0, .ref 0), (1, .int x1), (2, .int x2), (3, .int x3), (4, .int x4)] [] m1
  refine x_aload_n 0 rfl rfl (dk zX10_planRoute 5 rfl) ?_
  refine x_iload 4 rfl (dk zX10_planRoute 6 rfl) ?_
  refine x_aload_n 0 rfl rfl (dk zX10_planRoute 7 rfl) ?_
  refine gf10_3 (r := 6) rfl k0 r0_3 (dk zX10_planRoute 8 rfl) ?_
  refine x_callV (as := [.int x4, .ref 6]) (o := 0) (ci := 10) (st := []) rfl okRX10_142 npX10_stampWay ⟨Nat.le_of_ble_eq_true rfl, Nat.le_of_ble_eq_true rfl⟩ k0 (by decide) rfl (Nat.le_of_ble_eq_true rfl) (dk zX10_planRoute 9 rfl) ?_
  refine hm1.mono ?_
  rintro _ m2 ⟨rfl, hm2⟩
  show Ex E MX10_planRoute Q 19 [(0, .ref 0), (1, .int x1), (2, .int x2), (3, .int x3), (4, .int x4)] [] m2
  refine x_aload_n 0 rfl rfl (dk zX10_planRoute 10 rfl) ?_
  refine gf10_2 (r := 4) rfl k0 r0_2 (dk zX10_planRoute 11 rfl) ?_
  refine x_callV (as := []) (o := 4) (ci := 5) (st := []) rfl okRX10_146 npX5_size ⟨Nat.le_of_ble_eq_true rfl, Nat.le_of_ble_eq_true rfl⟩ k4 (by decide) rfl (Nat.le_of_ble_eq_true rfl) (dk zX10_planRoute 12 rfl) ?_
  refine hm2.mono ?_
  rintro _ m3 ⟨r4, rfl, hm3⟩
  show Ex E MX10_planRoute Q 26 [(0, .ref 0), (1, .int x1), (2, .int x2), (3, .int x3), (4, .int x4)] [.int r4] m3
  refine x_aload_n 0 rfl rfl (dk zX10_planRoute 13 rfl) ?_
  refine gf10_3 (r := 6) rfl k0 r0_3 (dk zX10_planRoute 14 rfl) ?_
  refine x_callV (as := []) (o := 6) (ci := 5) (st := [.int r4]) rfl okRX10_146 npX5_size ⟨Nat.le_of_ble_eq_true rfl, Nat.le_of_ble_eq_true rfl⟩ k6 (by decide) rfl (Nat.le_of_ble_eq_true rfl) (dk zX10_planRoute 15 rfl) ?_
  refine hm3.mono ?_
  rintro _ m5 ⟨r6, rfl, hm5⟩
  show Ex E MX10_planRoute Q 33 [(0, .ref 0), (1, .int x1), (2, .int x2), (3, .int x3), (4, .int x4)] [.int r6, .int r4] m5
  refine x_mmax rfl wmRX10_412 wmmax_s wmi wmmax_c (Nat.le_of_ble_eq_true rfl) (Nat.le_of_ble_eq_true rfl) (dk zX10_planRoute 16 rfl) ?_
  refine x_aload_n 0 rfl rfl (dk zX10_planRoute 17 rfl) ?_
  refine gf10_0 (r := 1) rfl k0 r0_0 (dk zX10_planRoute 18 rfl) ?_
  refine x_callV (as := []) (o := 1) (ci := 3) (st := [.int (if r4 < r6 then r6 else r4)]) rfl okRX10_133 npX3_roomTold ⟨Nat.le_of_ble_eq_true rfl, Nat.le_of_ble_eq_true rfl⟩ k1 (by decide) rfl (Nat.le_of_ble_eq_true rfl) (dk zX10_planRoute 19 rfl) ?_
  refine hm5.mono ?_
  rintro _ m7 ⟨r8, rfl, hm7⟩
  show Ex E MX10_planRoute Q 43 [(0, .ref 0), (1, .int x1), (2, .int x2), (3, .int x3), (4, .int x4)] [.int r8, .int (if r4 < r6 then r6 else r4)] m7
  refine x_icmp_le (tgt := 48) (by decide) (dk zX10_planRoute 20 rfl) (fun c9 => ?_) (fun c9 => ?_)
  · have hc9t := hm7.1 c9
    refine x_aload_n 0 rfl rfl (dk zX10_planRoute 23 rfl) ?_
    refine gf10_5 (r := 11) rfl k0 r0_5 (dk zX10_planRoute 24 rfl) ?_
    refine x_aload_n 0 rfl rfl (dk zX10_planRoute 25 rfl) ?_
    refine gf10_2 (r := 4) rfl k0 r0_2 (dk zX10_planRoute 26 rfl) ?_
    refine x_aload_n 0 rfl rfl (dk zX10_planRoute 27 rfl) ?_
    refine gf10_3 (r := 6) rfl k0 r0_3 (dk zX10_planRoute 28 rfl) ?_
    refine x_callV (as := [.ref 4, .ref 6]) (o := 11) (ci := 6) (st := []) rfl okRX10_201 npX6_plan ⟨Nat.le_of_ble_eq_true rfl, Nat.le_of_ble_eq_true rfl⟩ k11 (by decide) rfl (Nat.le_of_ble_eq_true rfl) (dk zX10_planRoute 29 rfl) ?_
    refine hc9t.mono ?_
    rintro _ m10 ⟨rfl, hm10⟩
    show Ex E MX10_planRoute Q 63 [(0, .ref 0), (1, .int x1), (2, .int x2), (3, .int x3), (4, .int x4)] [] m10
    refine x_aload_n 0 rfl rfl (dk zX10_planRoute 30 rfl) ?_
    refine gf10_5 (r := 11) rfl k0 r0_5 (dk zX10_planRoute 31 rfl) ?_
    refine x_iload_n 1 rfl rfl (dk zX10_planRoute 32 rfl) ?_
    refine x_iload_n 3 rfl rfl (dk zX10_planRoute 33 rfl) ?_
    refine x_callV (as := [.int x1, .int x3]) (o := 11) (ci := 6) (st := []) rfl okRX10_415 npX6_gatesBetween ⟨Nat.le_of_ble_eq_true rfl, Nat.le_of_ble_eq_true rfl⟩ k11 (by decide) rfl (Nat.le_of_ble_eq_true rfl) (dk zX10_planRoute 34 rfl) ?_
    refine hm10.mono ?_
    rintro _ m11 ⟨r12, rfl, hm11⟩
    show Ex E MX10_planRoute Q 72 [(0, .ref 0), (1, .int x1), (2, .int x2), (3, .int x3), (4, .int x4)] [.int r12] m11
    exact x_iret (ty := .int) rfl rfl (dk zX10_planRoute 35 rfl) hm11
  · have hc9f := hm7.2 c9
    refine x_iconst (v := -1) (by decide) (dk zX10_planRoute 21 rfl) ?_
    exact x_iret (ty := .int) rfl rfl (dk zX10_planRoute 22 rfl) hc9f
set_option maxRecDepth 20000 in
set_option maxHeartbeats 2000000 in
theorem gX10_shortest_0 {E : EV} {Q : Po} {μ : Mem} {x1 : Int32} {x2 : Int32} {x3 : Int32} {x4 : Int32} {x5 : Int32} (h : Sp E MX10_areEnds [.int x1, .int x2, .int x3, .int x4] μ (fun v m1 => ∃ r2 : Int32, v = some (.int r2) ∧ ((r2 = 0 → Sp E MX10_longRefusal [.int ((-2))] m1 (fun v m4 => ∃ r5 : Int64, v = some (.long r5) ∧ Q (some (.long r5)) m4)) ∧ (¬ r2 = 0 → ((x5 < 0 → Sp E MX10_longRefusal [.int ((-2))] m1 (fun v m7 => ∃ r8 : Int64, v = some (.long r8) ∧ Q (some (.long r8)) m7)) ∧ (¬ x5 < 0 → ((x5 ≤ 1 → Sp E MX10_planRoute [.ref 0, .int x1, .int x2, .int x3, .int x4] m1 (fun v m10 => ∃ r11 : Int32, v = some (.int r11) ∧ ((¬ x5 = 0 → ((¬ r11 = ((-1)) → Sp E MX6_ways [.ref 11, .int x1, .int x3] m10 (fun v m14 => ∃ r15 : Int64, v = some (.long r15) ∧ Q (some (.long r15)) m14)) ∧ (r11 = ((-1)) → Q (some (.long 0)) m10))) ∧ (x5 = 0 → Q (some (.long (Int32.toInt64 r11))) m10)))) ∧ (¬ x5 ≤ 1 → Sp E MX10_longRefusal [.int ((-2))] m1 (fun v m16 => ∃ r17 : Int64, v = some (.long r17) ∧ Q (some (.long r17)) m16))))))))) : Ex E MX10_shortest Q 0 [(0, .ref 0), (1, .int x1), (2, .int x2), (3, .int x3), (4, .int x4), (5, .int x5)] [] μ := by
  refine x_iload_n 1 rfl rfl (dk zX10_shortest 0 rfl) ?_
  refine x_iload_n 2 rfl rfl (dk zX10_shortest 1 rfl) ?_
  refine x_iload_n 3 rfl rfl (dk zX10_shortest 2 rfl) ?_
  refine x_iload 4 rfl (dk zX10_shortest 3 rfl) ?_
  refine x_callS (as := [.int x1, .int x2, .int x3, .int x4]) (st := []) rfl okRX10_170 npX10_areEnds ⟨Nat.le_of_ble_eq_true rfl, Nat.le_of_ble_eq_true rfl⟩ (Nat.le_of_ble_eq_true rfl) (dk zX10_shortest 4 rfl) ?_
  refine h.mono ?_
  rintro _ m1 ⟨r2, rfl, hm1⟩
  show Ex E MX10_shortest Q 8 [(0, .ref 0), (1, .int x1), (2, .int x2), (3, .int x3), (4, .int x4), (5, .int x5)] [.int r2] m1
  refine x_if_eq (tgt := 22) (by decide) (dk zX10_shortest 5 rfl) (fun c3 => ?_) (fun c3 => ?_)
  · have hc3t := hm1.1 c3
    refine x_bipush (v := -2) (by decide) (dk zX10_shortest 11 rfl) ?_
    refine x_callS (as := [.int ((-2))]) (st := []) rfl okRX10_174 npX10_longRefusal ⟨Nat.le_of_ble_eq_true rfl, Nat.le_of_ble_eq_true rfl⟩ (Nat.le_of_ble_eq_true rfl) (dk zX10_shortest 12 rfl) ?_
    refine hc3t.mono ?_
    rintro _ m4 ⟨r5, rfl, hm4⟩
    show Ex E MX10_shortest Q 27 [(0, .ref 0), (1, .int x1), (2, .int x2), (3, .int x3), (4, .int x4), (5, .int x5)] [.long r5] m4
    exact x_lret rfl (dk zX10_shortest 13 rfl) hm4
  · have hc3f := hm1.2 c3
    refine x_iload 5 rfl (dk zX10_shortest 6 rfl) ?_
    refine x_if_lt (tgt := 22) (by decide) (dk zX10_shortest 7 rfl) (fun c6 => ?_) (fun c6 => ?_)
    · have hc6t := hc3f.1 c6
      refine x_bipush (v := -2) (by decide) (dk zX10_shortest 11 rfl) ?_
      refine x_callS (as := [.int ((-2))]) (st := []) rfl okRX10_174 npX10_longRefusal ⟨Nat.le_of_ble_eq_true rfl, Nat.le_of_ble_eq_true rfl⟩ (Nat.le_of_ble_eq_true rfl) (dk zX10_shortest 12 rfl) ?_
      refine hc6t.mono ?_
      rintro _ m7 ⟨r8, rfl, hm7⟩
      show Ex E MX10_shortest Q 27 [(0, .ref 0), (1, .int x1), (2, .int x2), (3, .int x3), (4, .int x4), (5, .int x5)] [.long r8] m7
      exact x_lret rfl (dk zX10_shortest 13 rfl) hm7
    · have hc6f := hc3f.2 c6
      refine x_iload 5 rfl (dk zX10_shortest 8 rfl) ?_
      refine x_iconst (v := 1) (by decide) (dk zX10_shortest 9 rfl) ?_
      refine x_icmp_le (tgt := 28) (by decide) (dk zX10_shortest 10 rfl) (fun c9 => ?_) (fun c9 => ?_)
      · have hc9t := hc6f.1 c9
        refine x_aload_n 0 rfl rfl (dk zX10_shortest 14 rfl) ?_
        refine x_iload_n 1 rfl rfl (dk zX10_shortest 15 rfl) ?_
        refine x_iload_n 2 rfl rfl (dk zX10_shortest 16 rfl) ?_
        refine x_iload_n 3 rfl rfl (dk zX10_shortest 17 rfl) ?_
        refine x_iload 4 rfl (dk zX10_shortest 18 rfl) ?_
        refine x_callV (as := [.int x1, .int x2, .int x3, .int x4]) (o := 0) (ci := 10) (st := []) rfl okRX10_178 npX10_planRoute ⟨Nat.le_of_ble_eq_true rfl, Nat.le_of_ble_eq_true rfl⟩ k0 (by decide) rfl (Nat.le_of_ble_eq_true rfl) (dk zX10_shortest 19 rfl) ?_
        refine hc9t.mono ?_
        rintro _ m10 ⟨r11, rfl, hm10⟩
        show Ex E MX10_shortest Q 37 [(0, .ref 0), (1, .int x1), (2, .int x2), (3, .int x3), (4, .int x4), (5, .int x5)] [.int r11] m10
        refine x_istoreG (l' := [(0, .ref 0), (1, .int x1), (2, .int x2), (3, .int x3), (4, .int x4), (5, .int x5), (6, .int r11)]) [1, 2, 3, 4, 5, 6, 0] rfl (by decide) (dk zX10_shortest 20 rfl) ?_
        refine x_iload 5 rfl (dk zX10_shortest 21 rfl) ?_
        refine x_if_ne (tgt := 48) (by decide) (dk zX10_shortest 22 rfl) (fun c12 => ?_) (fun c12 => ?_)
        · have hc12t := hm10.1 c12
          refine x_iload 6 rfl (dk zX10_shortest 26 rfl) ?_
          refine x_iconst (v := -1) (by decide) (dk zX10_shortest 27 rfl) ?_
          refine x_icmp_ne (tgt := 58) (by decide) (dk zX10_shortest 28 rfl) (fun c13 => ?_) (fun c13 => ?_)
          · have hc13t := hc12t.1 c13
            refine x_aload_n 0 rfl rfl (dk zX10_shortest 31 rfl) ?_
            refine gf10_5 (r := 11) rfl k0 r0_5 (dk zX10_shortest 32 rfl) ?_
            refine x_iload_n 1 rfl rfl (dk zX10_shortest 33 rfl) ?_
            refine x_iload_n 3 rfl rfl (dk zX10_shortest 34 rfl) ?_
            refine x_callV (as := [.int x1, .int x3]) (o := 11) (ci := 6) (st := []) rfl okRX10_182 npX6_ways ⟨Nat.le_of_ble_eq_true rfl, Nat.le_of_ble_eq_true rfl⟩ k11 (by decide) rfl (Nat.le_of_ble_eq_true rfl) (dk zX10_shortest 35 rfl) ?_
            refine hc13t.mono ?_
            rintro _ m14 ⟨r15, rfl, hm14⟩
            show Ex E MX10_shortest Q 67 [(0, .ref 0), (1, .int x1), (2, .int x2), (3, .int x3), (4, .int x4), (5, .int x5), (6, .int r11)] [.long r15] m14
            exact x_lret rfl (dk zX10_shortest 36 rfl) hm14
          · have hc13f := hc12t.2 c13
            refine x_lconst (v := 0) (by decide) (dk zX10_shortest 29 rfl) ?_
            refine x_goto (tgt := 67) (by decide) (dk zX10_shortest 30 rfl) ?_
            exact x_lret rfl (dk zX10_shortest 36 rfl) hc13f
        · have hc12f := hm10.2 c12
          refine x_iload 6 rfl (dk zX10_shortest 23 rfl) ?_
          refine x_i2l (dk zX10_shortest 24 rfl) ?_
          exact x_lret rfl (dk zX10_shortest 25 rfl) hc12f
      · have hc9f := hc6f.2 c9
        refine x_bipush (v := -2) (by decide) (dk zX10_shortest 11 rfl) ?_
        refine x_callS (as := [.int ((-2))]) (st := []) rfl okRX10_174 npX10_longRefusal ⟨Nat.le_of_ble_eq_true rfl, Nat.le_of_ble_eq_true rfl⟩ (Nat.le_of_ble_eq_true rfl) (dk zX10_shortest 12 rfl) ?_
        refine hc9f.mono ?_
        rintro _ m16 ⟨r17, rfl, hm16⟩
        show Ex E MX10_shortest Q 27 [(0, .ref 0), (1, .int x1), (2, .int x2), (3, .int x3), (4, .int x4), (5, .int x5)] [.long r17] m16
        exact x_lret rfl (dk zX10_shortest 13 rfl) hm16
set_option maxRecDepth 20000 in
set_option maxHeartbeats 2000000 in
theorem gX10_letter_0 {E : EV} {Q : Po} {μ : Mem} {x1 : Int32} {x2 : Int32} {x3 : Int32} {x4 : Int32} {x5 : Int32} (h : Sp E MX10_areEnds [.int x1, .int x2, .int x3, .int x4] μ (fun v m1 => ∃ r2 : Int32, v = some (.int r2) ∧ ((r2 = 0 → Q (some (.int ((-2)))) m1) ∧ (¬ r2 = 0 → ((0 ≤ x5 → Sp E MX10_planRoute [.ref 0, .int x1, .int x2, .int x3, .int x4] m1 (fun v m5 => ∃ r6 : Int32, v = some (.int r6) ∧ ((r6 ≤ x5 → Q (some (.int ((-1)))) m5) ∧ (¬ r6 ≤ x5 → Sp E MX6_leastLetter [.ref 11, .int x1, .int x3, .int x5] m5 (fun v m8 => ∃ r9 : Int32, v = some (.int r9) ∧ Sp E MX10_byteOf [.int r9] m8 (fun v m10 => ∃ r11 : Int32, v = some (.int r11) ∧ Q (some (.int r11)) m10)))))) ∧ (¬ 0 ≤ x5 → Q (some (.int ((-2)))) m1)))))) : Ex E MX10_letter Q 0 [(0, .ref 0), (1, .int x1), (2, .int x2), (3, .int x3), (4, .int x4), (5, .int x5)] [] μ := by
  refine x_iload_n 1 rfl rfl (dk zX10_letter 0 rfl) ?_
  refine x_iload_n 2 rfl rfl (dk zX10_letter 1 rfl) ?_
  refine x_iload_n 3 rfl rfl (dk zX10_letter 2 rfl) ?_
  refine x_iload 4 rfl (dk zX10_letter 3 rfl) ?_
  refine x_callS (as := [.int x1, .int x2, .int x3, .int x4]) (st := []) rfl okRX10_170 npX10_areEnds ⟨Nat.le_of_ble_eq_true rfl, Nat.le_of_ble_eq_true rfl⟩ (Nat.le_of_ble_eq_true rfl) (dk zX10_letter 4 rfl) ?_
  refine h.mono ?_
  rintro _ m1 ⟨r2, rfl, hm1⟩
  show Ex E MX10_letter Q 8 [(0, .ref 0), (1, .int x1), (2, .int x2), (3, .int x3), (4, .int x4), (5, .int x5)] [.int r2] m1
  refine x_if_eq (tgt := 16) (by decide) (dk zX10_letter 5 rfl) (fun c3 => ?_) (fun c3 => ?_)
  · have hc3t := hm1.1 c3
    refine x_bipush (v := -2) (by decide) (dk zX10_letter 8 rfl) ?_
    exact x_iret (ty := .int) rfl rfl (dk zX10_letter 9 rfl) hc3t
  · have hc3f := hm1.2 c3
    refine x_iload 5 rfl (dk zX10_letter 6 rfl) ?_
    refine x_if_ge (tgt := 19) (by decide) (dk zX10_letter 7 rfl) (fun c4 => ?_) (fun c4 => ?_)
    · have hc4t := hc3f.1 c4
      refine x_aload_n 0 rfl rfl (dk zX10_letter 10 rfl) ?_
      refine x_iload_n 1 rfl rfl (dk zX10_letter 11 rfl) ?_
      refine x_iload_n 2 rfl rfl (dk zX10_letter 12 rfl) ?_
      refine x_iload_n 3 rfl rfl (dk zX10_letter 13 rfl) ?_
      refine x_iload 4 rfl (dk zX10_letter 14 rfl) ?_
      refine x_callV (as := [.int x1, .int x2, .int x3, .int x4]) (o := 0) (ci := 10) (st := []) rfl okRX10_178 npX10_planRoute ⟨Nat.le_of_ble_eq_true rfl, Nat.le_of_ble_eq_true rfl⟩ k0 (by decide) rfl (Nat.le_of_ble_eq_true rfl) (dk zX10_letter 15 rfl) ?_
      refine hc4t.mono ?_
      rintro _ m5 ⟨r6, rfl, hm5⟩
      show Ex E MX10_letter Q 28 [(0, .ref 0), (1, .int x1), (2, .int x2), (3, .int x3), (4, .int x4), (5, .int x5)] [.int r6] m5
      refine x_istoreG (l' := [(0, .ref 0), (1, .int x1), (2, .int x2), (3, .int x3), (4, .int x4), (5, .int x5), (6, .int r6)]) [1, 2, 3, 4, 5, 6, 0] rfl (by decide) (dk zX10_letter 16 rfl) ?_
      refine x_iload 5 rfl (dk zX10_letter 17 rfl) ?_
      refine x_iload 6 rfl (dk zX10_letter 18 rfl) ?_
      refine x_icmp_ge (tgt := 54) (by decide) (dk zX10_letter 19 rfl) (fun c7 => ?_) (fun c7 => ?_)
      · have hc7t := hm5.1 c7
        refine x_iconst (v := -1) (by decide) (dk zX10_letter 28 rfl) ?_
        exact x_iret (ty := .int) rfl rfl (dk zX10_letter 29 rfl) hc7t
      · have hc7f := hm5.2 c7
        refine x_aload_n 0 rfl rfl (dk zX10_letter 20 rfl) ?_
        refine gf10_5 (r := 11) rfl k0 r0_5 (dk zX10_letter 21 rfl) ?_
        refine x_iload_n 1 rfl rfl (dk zX10_letter 22 rfl) ?_
        refine x_iload_n 3 rfl rfl (dk zX10_letter 23 rfl) ?_
        refine x_iload 5 rfl (dk zX10_letter 24 rfl) ?_
        refine x_callV (as := [.int x1, .int x3, .int x5]) (o := 11) (ci := 6) (st := []) rfl okRX10_186 npX6_leastLetter ⟨Nat.le_of_ble_eq_true rfl, Nat.le_of_ble_eq_true rfl⟩ k11 (by decide) rfl (Nat.le_of_ble_eq_true rfl) (dk zX10_letter 25 rfl) ?_
        refine hc7f.mono ?_
        rintro _ m8 ⟨r9, rfl, hm8⟩
        show Ex E MX10_letter Q 48 [(0, .ref 0), (1, .int x1), (2, .int x2), (3, .int x3), (4, .int x4), (5, .int x5), (6, .int r6)] [.int r9] m8
        refine x_callS (as := [.int r9]) (st := []) rfl okRX10_150 npX10_byteOf ⟨Nat.le_of_ble_eq_true rfl, Nat.le_of_ble_eq_true rfl⟩ (Nat.le_of_ble_eq_true rfl) (dk zX10_letter 26 rfl) ?_
        refine hm8.mono ?_
        rintro _ m10 ⟨r11, rfl, hm10⟩
        show Ex E MX10_letter Q 51 [(0, .ref 0), (1, .int x1), (2, .int x2), (3, .int x3), (4, .int x4), (5, .int x5), (6, .int r6)] [.int r11] m10
        refine x_goto (tgt := 55) (by decide) (dk zX10_letter 27 rfl) ?_
        exact x_iret (ty := .int) rfl rfl (dk zX10_letter 29 rfl) hm10
    · have hc4f := hc3f.2 c4
      refine x_bipush (v := -2) (by decide) (dk zX10_letter 8 rfl) ?_
      exact x_iret (ty := .int) rfl rfl (dk zX10_letter 9 rfl) hc4f
set_option maxRecDepth 20000 in
set_option maxHeartbeats 2000000 in
theorem gX10_errands_0 {E : EV} {Q : Po} {μ : Mem} {x1 : Int32} {x2 : Int32} {x3 : Int32} (h : Sp E MX10_isTown [.int x1] μ (fun v m1 => ∃ r2 : Int32, v = some (.int r2) ∧ ((r2 = 0 → Q (some (.int ((-2)))) m1) ∧ (¬ r2 = 0 → ((x2 < 0 → Q (some (.int ((-2)))) m1) ∧ (¬ x2 < 0 → ((255 < x2 → Q (some (.int ((-2)))) m1) ∧ (¬ 255 < x2 → ((x3 < 0 → Q (some (.int ((-2)))) m1) ∧ (¬ x3 < 0 → ((x3 ≤ 1 → Sp E MX1_fullest [.ref 27, .int x1, .int x2] m1 (fun v m8 => ∃ r9 : Int32, v = some (.int r9) ∧ ((x3 = 0 → Q (some (.int r9)) m8) ∧ (¬ x3 = 0 → ((¬ r9 = ((-1)) → Sp E MX1_stepsTo [.ref 27, .int x2] m8 (fun v m12 => ∃ r13 : Int32, v = some (.int r13) ∧ Q (some (.int (2 * r13))) m12)) ∧ (r9 = ((-1)) → Q (some (.int r9)) m8)))))) ∧ (¬ x3 ≤ 1 → Q (some (.int ((-2)))) m1)))))))))))) : Ex E MX10_errands Q 0 [(0, .ref 0), (1, .int x1), (2, .int x2), (3, .int x3)] [] μ := by
  refine x_iload_n 1 rfl rfl (dk zX10_errands 0 rfl) ?_
  refine x_callS (as := [.int x1]) (st := []) rfl okRX10_153 npX10_isTown ⟨Nat.le_of_ble_eq_true rfl, Nat.le_of_ble_eq_true rfl⟩ (Nat.le_of_ble_eq_true rfl) (dk zX10_errands 1 rfl) ?_
  refine h.mono ?_
  rintro _ m1 ⟨r2, rfl, hm1⟩
  show Ex E MX10_errands Q 4 [(0, .ref 0), (1, .int x1), (2, .int x2), (3, .int x3)] [.int r2] m1
  refine x_if_eq (tgt := 27) (by decide) (dk zX10_errands 2 rfl) (fun c3 => ?_) (fun c3 => ?_)
  · have hc3t := hm1.1 c3
    refine x_bipush (v := -2) (by decide) (dk zX10_errands 13 rfl) ?_
    exact x_iret (ty := .int) rfl rfl (dk zX10_errands 14 rfl) hc3t
  · have hc3f := hm1.2 c3
    refine x_iload_n 2 rfl rfl (dk zX10_errands 3 rfl) ?_
    refine x_if_lt (tgt := 27) (by decide) (dk zX10_errands 4 rfl) (fun c4 => ?_) (fun c4 => ?_)
    · have hc4t := hc3f.1 c4
      refine x_bipush (v := -2) (by decide) (dk zX10_errands 13 rfl) ?_
      exact x_iret (ty := .int) rfl rfl (dk zX10_errands 14 rfl) hc4t
    · have hc4f := hc3f.2 c4
      refine x_iload_n 2 rfl rfl (dk zX10_errands 5 rfl) ?_
      refine x_sipush (v := 255) (by decide) (dk zX10_errands 6 rfl) ?_
      refine x_icmp_gt (tgt := 27) (by decide) (dk zX10_errands 7 rfl) (fun c5 => ?_) (fun c5 => ?_)
      · have hc5t := hc4f.1 c5
        refine x_bipush (v := -2) (by decide) (dk zX10_errands 13 rfl) ?_
        exact x_iret (ty := .int) rfl rfl (dk zX10_errands 14 rfl) hc5t
      · have hc5f := hc4f.2 c5
        refine x_iload_n 3 rfl rfl (dk zX10_errands 8 rfl) ?_
        refine x_if_lt (tgt := 27) (by decide) (dk zX10_errands 9 rfl) (fun c6 => ?_) (fun c6 => ?_)
        · have hc6t := hc5f.1 c6
          refine x_bipush (v := -2) (by decide) (dk zX10_errands 13 rfl) ?_
          exact x_iret (ty := .int) rfl rfl (dk zX10_errands 14 rfl) hc6t
        · have hc6f := hc5f.2 c6
          refine x_iload_n 3 rfl rfl (dk zX10_errands 10 rfl) ?_
          refine x_iconst (v := 1) (by decide) (dk zX10_errands 11 rfl) ?_
          refine x_icmp_le (tgt := 30) (by decide) (dk zX10_errands 12 rfl) (fun c7 => ?_) (fun c7 => ?_)
          · have hc7t := hc6f.1 c7
            refine x_aload_n 0 rfl rfl (dk zX10_errands 15 rfl) ?_
            refine gf10_6 (r := 27) rfl k0 r0_6 (dk zX10_errands 16 rfl) ?_
            refine x_iload_n 1 rfl rfl (dk zX10_errands 17 rfl) ?_
            refine x_iload_n 2 rfl rfl (dk zX10_errands 18 rfl) ?_
            refine x_callV (as := [.int x1, .int x2]) (o := 27) (ci := 1) (st := []) rfl okRX10_190 npX1_fullest ⟨Nat.le_of_ble_eq_true rfl, Nat.le_of_ble_eq_true rfl⟩ k27 (by decide) rfl (Nat.le_of_ble_eq_true rfl) (dk zX10_errands 19 rfl) ?_
            refine hc7t.mono ?_
            rintro _ m8 ⟨r9, rfl, hm8⟩
            show Ex E MX10_errands Q 39 [(0, .ref 0), (1, .int x1), (2, .int x2), (3, .int x3)] [.int r9] m8
            refine x_istoreG (l' := [(0, .ref 0), (1, .int x1), (2, .int x2), (3, .int x3), (4, .int r9)]) [1, 2, 3, 4, 0] rfl (by decide) (dk zX10_errands 20 rfl) ?_
            refine x_iload_n 3 rfl rfl (dk zX10_errands 21 rfl) ?_
            refine x_if_eq (tgt := 51) (by decide) (dk zX10_errands 22 rfl) (fun c10 => ?_) (fun c10 => ?_)
            · have hc10t := hm8.1 c10
              refine x_iload 4 rfl (dk zX10_errands 26 rfl) ?_
              refine x_goto (tgt := 66) (by decide) (dk zX10_errands 27 rfl) ?_
              exact x_iret (ty := .int) rfl rfl (dk zX10_errands 34 rfl) hc10t
            · have hc10f := hm8.2 c10
              refine x_iload 4 rfl (dk zX10_errands 23 rfl) ?_
              refine x_iconst (v := -1) (by decide) (dk zX10_errands 24 rfl) ?_
              refine x_icmp_ne (tgt := 56) (by decide) (dk zX10_errands 25 rfl) (fun c11 => ?_) (fun c11 => ?_)
              · have hc11t := hc10f.1 c11
                refine x_iconst (v := 2) (by decide) (dk zX10_errands 28 rfl) ?_
                refine x_aload_n 0 rfl rfl (dk zX10_errands 29 rfl) ?_
                refine gf10_6 (r := 27) rfl k0 r0_6 (dk zX10_errands 30 rfl) ?_
                refine x_iload_n 2 rfl rfl (dk zX10_errands 31 rfl) ?_
                refine x_callV (as := [.int x2]) (o := 27) (ci := 1) (st := [.int 2]) rfl okRX10_194 npX1_stepsTo ⟨Nat.le_of_ble_eq_true rfl, Nat.le_of_ble_eq_true rfl⟩ k27 (by decide) rfl (Nat.le_of_ble_eq_true rfl) (dk zX10_errands 32 rfl) ?_
                refine hc11t.mono ?_
                rintro _ m12 ⟨r13, rfl, hm12⟩
                show Ex E MX10_errands Q 65 [(0, .ref 0), (1, .int x1), (2, .int x2), (3, .int x3), (4, .int r9)] [.int r13, .int 2] m12
                refine x_imul (dk zX10_errands 33 rfl) ?_
                exact x_iret (ty := .int) rfl rfl (dk zX10_errands 34 rfl) hm12
              · have hc11f := hc10f.2 c11
                refine x_iload 4 rfl (dk zX10_errands 26 rfl) ?_
                refine x_goto (tgt := 66) (by decide) (dk zX10_errands 27 rfl) ?_
                exact x_iret (ty := .int) rfl rfl (dk zX10_errands 34 rfl) hc11f
          · have hc7f := hc6f.2 c7
            refine x_bipush (v := -2) (by decide) (dk zX10_errands 13 rfl) ?_
            exact x_iret (ty := .int) rfl rfl (dk zX10_errands 14 rfl) hc7f
set_option maxRecDepth 20000 in
set_option maxHeartbeats 2000000 in
theorem gX10_clean_0 {E : EV} {Q : Po} {μ : Mem} {x1 : Int32} (h : Sp E MX10_isTown [.int x1] μ (fun v m1 => ∃ r2 : Int32, v = some (.int r2) ∧ ((r2 = 0 → Q (some (.int ((-2)))) m1) ∧ (¬ r2 = 0 → Sp E MX1_homely [.ref 27, .int x1] m1 (fun v m4 => ∃ r5 : Int32, v = some (.int r5) ∧ Q (some (.int r5)) m4))))) : Ex E MX10_clean Q 0 [(0, .ref 0), (1, .int x1)] [] μ := by
  refine x_iload_n 1 rfl rfl (dk zX10_clean 0 rfl) ?_
  refine x_callS (as := [.int x1]) (st := []) rfl okRX10_153 npX10_isTown ⟨Nat.le_of_ble_eq_true rfl, Nat.le_of_ble_eq_true rfl⟩ (Nat.le_of_ble_eq_true rfl) (dk zX10_clean 1 rfl) ?_
  refine h.mono ?_
  rintro _ m1 ⟨r2, rfl, hm1⟩
  show Ex E MX10_clean Q 4 [(0, .ref 0), (1, .int x1)] [.int r2] m1
  refine x_if_eq (tgt := 18) (by decide) (dk zX10_clean 2 rfl) (fun c3 => ?_) (fun c3 => ?_)
  · have hc3t := hm1.1 c3
    refine x_bipush (v := -2) (by decide) (dk zX10_clean 8 rfl) ?_
    exact x_iret (ty := .int) rfl rfl (dk zX10_clean 9 rfl) hc3t
  · have hc3f := hm1.2 c3
    refine x_aload_n 0 rfl rfl (dk zX10_clean 3 rfl) ?_
    refine gf10_6 (r := 27) rfl k0 r0_6 (dk zX10_clean 4 rfl) ?_
    refine x_iload_n 1 rfl rfl (dk zX10_clean 5 rfl) ?_
    refine x_callV (as := [.int x1]) (o := 27) (ci := 1) (st := []) rfl okRX10_197 npX1_homely ⟨Nat.le_of_ble_eq_true rfl, Nat.le_of_ble_eq_true rfl⟩ k27 (by decide) rfl (Nat.le_of_ble_eq_true rfl) (dk zX10_clean 6 rfl) ?_
    refine hc3f.mono ?_
    rintro _ m4 ⟨r5, rfl, hm4⟩
    show Ex E MX10_clean Q 15 [(0, .ref 0), (1, .int x1)] [.int r5] m4
    refine x_goto (tgt := 20) (by decide) (dk zX10_clean 7 rfl) ?_
    exact x_iret (ty := .int) rfl rfl (dk zX10_clean 9 rfl) hm4
set_option maxRecDepth 20000 in
set_option maxHeartbeats 2000000 in
theorem gX10_found_0 {E : EV} {Q : Po} {μ : Mem} {x1 : Int32} {x2 : Int32} (h : Sp E MX10_isWay [.int x1] μ (fun v m1 => ∃ r2 : Int32, v = some (.int r2) ∧ ((r2 = 0 → Q (some (.int ((-2)))) m1) ∧ (¬ r2 = 0 → ((x2 < 0 → Q (some (.int ((-2)))) m1) ∧ (¬ x2 < 0 → ((x2 ≤ 1 → Sp E MX5_empty [.ref 4] m1 (fun v m6 => v = none ∧ Sp E MX10_stampWay [.ref 0, .int x1, .ref 6] m6 (fun v m7 => v = none ∧ Sp E MX6_plan [.ref 11, .ref 4, .ref 6] m7 (fun v m8 => v = none ∧ ((¬ x2 = 0 → Sp E MX6_ends [.ref 11] m8 (fun v m10 => ∃ r11 : Int32, v = some (.int r11) ∧ Q (some (.int r11)) m10)) ∧ (x2 = 0 → Sp E MX6_starts [.ref 11] m8 (fun v m12 => ∃ r13 : Int32, v = some (.int r13) ∧ Q (some (.int r13)) m12))))))) ∧ (¬ x2 ≤ 1 → Q (some (.int ((-2)))) m1)))))))) : Ex E MX10_found Q 0 [(0, .ref 0), (1, .int x1), (2, .int x2)] [] μ := by
  refine x_iload_n 1 rfl rfl (dk zX10_found 0 rfl) ?_
  refine x_callS (as := [.int x1]) (st := []) rfl okRX10_139 npX10_isWay ⟨Nat.le_of_ble_eq_true rfl, Nat.le_of_ble_eq_true rfl⟩ (Nat.le_of_ble_eq_true rfl) (dk zX10_found 1 rfl) ?_
  refine h.mono ?_
  rintro _ m1 ⟨r2, rfl, hm1⟩
  show Ex E MX10_found Q 4 [(0, .ref 0), (1, .int x1), (2, .int x2)] [.int r2] m1
  refine x_if_eq (tgt := 16) (by decide) (dk zX10_found 2 rfl) (fun c3 => ?_) (fun c3 => ?_)
  · have hc3t := hm1.1 c3
    refine x_bipush (v := -2) (by decide) (dk zX10_found 8 rfl) ?_
    exact x_iret (ty := .int) rfl rfl (dk zX10_found 9 rfl) hc3t
  · have hc3f := hm1.2 c3
    refine x_iload_n 2 rfl rfl (dk zX10_found 3 rfl) ?_
    refine x_if_lt (tgt := 16) (by decide) (dk zX10_found 4 rfl) (fun c4 => ?_) (fun c4 => ?_)
    · have hc4t := hc3f.1 c4
      refine x_bipush (v := -2) (by decide) (dk zX10_found 8 rfl) ?_
      exact x_iret (ty := .int) rfl rfl (dk zX10_found 9 rfl) hc4t
    · have hc4f := hc3f.2 c4
      refine x_iload_n 2 rfl rfl (dk zX10_found 5 rfl) ?_
      refine x_iconst (v := 1) (by decide) (dk zX10_found 6 rfl) ?_
      refine x_icmp_le (tgt := 19) (by decide) (dk zX10_found 7 rfl) (fun c5 => ?_) (fun c5 => ?_)
      · have hc5t := hc4f.1 c5
        refine x_aload_n 0 rfl rfl (dk zX10_found 10 rfl) ?_
        refine gf10_2 (r := 4) rfl k0 r0_2 (dk zX10_found 11 rfl) ?_
        refine x_callV (as := []) (o := 4) (ci := 5) (st := []) rfl okRX10_200 npX5_empty ⟨Nat.le_of_ble_eq_true rfl, Nat.le_of_ble_eq_true rfl⟩ k4 (by decide) rfl (Nat.le_of_ble_eq_true rfl) (dk zX10_found 12 rfl) ?_
        refine hc5t.mono ?_
        rintro _ m6 ⟨rfl, hm6⟩
        show Ex E MX10_found Q 26 [(0, .ref 0), (1, .int x1), (2, .int x2)] [] m6
        refine x_aload_n 0 rfl rfl (dk zX10_found 13 rfl) ?_
        refine x_iload_n 1 rfl rfl (dk zX10_found 14 rfl) ?_
        refine x_aload_n 0 rfl rfl (dk zX10_found 15 rfl) ?_
        refine gf10_3 (r := 6) rfl k0 r0_3 (dk zX10_found 16 rfl) ?_
        refine x_callV (as := [.int x1, .ref 6]) (o := 0) (ci := 10) (st := []) rfl okRX10_142 npX10_stampWay ⟨Nat.le_of_ble_eq_true rfl, Nat.le_of_ble_eq_true rfl⟩ k0 (by decide) rfl (Nat.le_of_ble_eq_true rfl) (dk zX10_found 17 rfl) ?_
        refine hm6.mono ?_
        rintro _ m7 ⟨rfl, hm7⟩
        show Ex E MX10_found Q 35 [(0, .ref 0), (1, .int x1), (2, .int x2)] [] m7
        refine x_aload_n 0 rfl rfl (dk zX10_found 18 rfl) ?_
        refine gf10_5 (r := 11) rfl k0 r0_5 (dk zX10_found 19 rfl) ?_
        refine x_aload_n 0 rfl rfl (dk zX10_found 20 rfl) ?_
        refine gf10_2 (r := 4) rfl k0 r0_2 (dk zX10_found 21 rfl) ?_
        refine x_aload_n 0 rfl rfl (dk zX10_found 22 rfl) ?_
        refine gf10_3 (r := 6) rfl k0 r0_3 (dk zX10_found 23 rfl) ?_
        refine x_callV (as := [.ref 4, .ref 6]) (o := 11) (ci := 6) (st := []) rfl okRX10_201 npX6_plan ⟨Nat.le_of_ble_eq_true rfl, Nat.le_of_ble_eq_true rfl⟩ k11 (by decide) rfl (Nat.le_of_ble_eq_true rfl) (dk zX10_found 24 rfl) ?_
        refine hm7.mono ?_
        rintro _ m8 ⟨rfl, hm8⟩
        show Ex E MX10_found Q 50 [(0, .ref 0), (1, .int x1), (2, .int x2)] [] m8
        refine x_iload_n 2 rfl rfl (dk zX10_found 25 rfl) ?_
        refine x_if_ne (tgt := 64) (by decide) (dk zX10_found 26 rfl) (fun c9 => ?_) (fun c9 => ?_)
        · have hc9t := hm8.1 c9
          refine x_aload_n 0 rfl rfl (dk zX10_found 31 rfl) ?_
          refine gf10_5 (r := 11) rfl k0 r0_5 (dk zX10_found 32 rfl) ?_
          refine x_callV (as := []) (o := 11) (ci := 6) (st := []) rfl okRX10_208 npX6_ends ⟨Nat.le_of_ble_eq_true rfl, Nat.le_of_ble_eq_true rfl⟩ k11 (by decide) rfl (Nat.le_of_ble_eq_true rfl) (dk zX10_found 33 rfl) ?_
          refine hc9t.mono ?_
          rintro _ m10 ⟨r11, rfl, hm10⟩
          show Ex E MX10_found Q 71 [(0, .ref 0), (1, .int x1), (2, .int x2)] [.int r11] m10
          exact x_iret (ty := .int) rfl rfl (dk zX10_found 34 rfl) hm10
        · have hc9f := hm8.2 c9
          refine x_aload_n 0 rfl rfl (dk zX10_found 27 rfl) ?_
          refine gf10_5 (r := 11) rfl k0 r0_5 (dk zX10_found 28 rfl) ?_
          refine x_callV (as := []) (o := 11) (ci := 6) (st := []) rfl okRX10_205 npX6_starts ⟨Nat.le_of_ble_eq_true rfl, Nat.le_of_ble_eq_true rfl⟩ k11 (by decide) rfl (Nat.le_of_ble_eq_true rfl) (dk zX10_found 29 rfl) ?_
          refine hc9f.mono ?_
          rintro _ m12 ⟨r13, rfl, hm12⟩
          show Ex E MX10_found Q 61 [(0, .ref 0), (1, .int x1), (2, .int x2)] [.int r13] m12
          refine x_goto (tgt := 71) (by decide) (dk zX10_found 30 rfl) ?_
          exact x_iret (ty := .int) rfl rfl (dk zX10_found 34 rfl) hm12
      · have hc5f := hc4f.2 c5
        refine x_bipush (v := -2) (by decide) (dk zX10_found 8 rfl) ?_
        exact x_iret (ty := .int) rfl rfl (dk zX10_found 9 rfl) hc5f
set_option maxRecDepth 20000 in
set_option maxHeartbeats 2000000 in
theorem gX10_many_0 {E : EV} {Q : Po} {μ : Mem} {x1 : Int32} {x2 : Int32} {x3 : Int32} {x4 : Int32} (h : Sp E MX10_isTown [.int x1] μ (fun v m1 => ∃ r2 : Int32, v = some (.int r2) ∧ ((r2 = 0 → Sp E MX10_longRefusal [.int ((-2))] m1 (fun v m4 => ∃ r5 : Int64, v = some (.long r5) ∧ Q (some (.long r5)) m4)) ∧ (¬ r2 = 0 → Sp E MX10_isWay [.int x2] m1 (fun v m6 => ∃ r7 : Int32, v = some (.int r7) ∧ ((r7 = 0 → Sp E MX10_longRefusal [.int ((-2))] m6 (fun v m9 => ∃ r10 : Int64, v = some (.long r10) ∧ Q (some (.long r10)) m9)) ∧ (¬ r7 = 0 → Sp E MX10_isTown [.int x3] m6 (fun v m11 => ∃ r12 : Int32, v = some (.int r12) ∧ ((r12 = 0 → Sp E MX10_longRefusal [.int ((-2))] m11 (fun v m14 => ∃ r15 : Int64, v = some (.long r15) ∧ Q (some (.long r15)) m14)) ∧ (¬ r12 = 0 → ((x4 < 0 → Sp E MX10_longRefusal [.int ((-2))] m11 (fun v m17 => ∃ r18 : Int64, v = some (.long r18) ∧ Q (some (.long r18)) m17)) ∧ (¬ x4 < 0 → ((x4 ≤ 12 → Sp E MX10_stampWay [.ref 0, .int x2, .ref 4] m11 (fun v m20 => v = none ∧ Sp E MX9_number [.ref 42, .int x1, .ref 4, .int x3, .int x4] m20 (fun v m21 => ∃ r22 : Int64, v = some (.long r22) ∧ Q (some (.long r22)) m21))) ∧ (¬ x4 ≤ 12 → Sp E MX10_longRefusal [.int ((-2))] m11 (fun v m23 => ∃ r24 : Int64, v = some (.long r24) ∧ Q (some (.long r24)) m23))))))))))))))) : Ex E MX10_many Q 0 [(0, .ref 0), (1, .int x1), (2, .int x2), (3, .int x3), (4, .int x4)] [] μ := by
  refine x_iload_n 1 rfl rfl (dk zX10_many 0 rfl) ?_
  refine x_callS (as := [.int x1]) (st := []) rfl okRX10_153 npX10_isTown ⟨Nat.le_of_ble_eq_true rfl, Nat.le_of_ble_eq_true rfl⟩ (Nat.le_of_ble_eq_true rfl) (dk zX10_many 1 rfl) ?_
  refine h.mono ?_
  rintro _ m1 ⟨r2, rfl, hm1⟩
  show Ex E MX10_many Q 4 [(0, .ref 0), (1, .int x1), (2, .int x2), (3, .int x3), (4, .int x4)] [.int r2] m1
  refine x_if_eq (tgt := 33) (by decide) (dk zX10_many 2 rfl) (fun c3 => ?_) (fun c3 => ?_)
  · have hc3t := hm1.1 c3
    refine x_bipush (v := -2) (by decide) (dk zX10_many 14 rfl) ?_
    refine x_callS (as := [.int ((-2))]) (st := []) rfl okRX10_174 npX10_longRefusal ⟨Nat.le_of_ble_eq_true rfl, Nat.le_of_ble_eq_true rfl⟩ (Nat.le_of_ble_eq_true rfl) (dk zX10_many 15 rfl) ?_
    refine hc3t.mono ?_
    rintro _ m4 ⟨r5, rfl, hm4⟩
    show Ex E MX10_many Q 38 [(0, .ref 0), (1, .int x1), (2, .int x2), (3, .int x3), (4, .int x4)] [.long r5] m4
    exact x_lret rfl (dk zX10_many 16 rfl) hm4
  · have hc3f := hm1.2 c3
    refine x_iload_n 2 rfl rfl (dk zX10_many 3 rfl) ?_
    refine x_callS (as := [.int x2]) (st := []) rfl okRX10_139 npX10_isWay ⟨Nat.le_of_ble_eq_true rfl, Nat.le_of_ble_eq_true rfl⟩ (Nat.le_of_ble_eq_true rfl) (dk zX10_many 4 rfl) ?_
    refine hc3f.mono ?_
    rintro _ m6 ⟨r7, rfl, hm6⟩
    show Ex E MX10_many Q 11 [(0, .ref 0), (1, .int x1), (2, .int x2), (3, .int x3), (4, .int x4)] [.int r7] m6
    refine x_if_eq (tgt := 33) (by decide) (dk zX10_many 5 rfl) (fun c8 => ?_) (fun c8 => ?_)
    · have hc8t := hm6.1 c8
      refine x_bipush (v := -2) (by decide) (dk zX10_many 14 rfl) ?_
      refine x_callS (as := [.int ((-2))]) (st := []) rfl okRX10_174 npX10_longRefusal ⟨Nat.le_of_ble_eq_true rfl, Nat.le_of_ble_eq_true rfl⟩ (Nat.le_of_ble_eq_true rfl) (dk zX10_many 15 rfl) ?_
      refine hc8t.mono ?_
      rintro _ m9 ⟨r10, rfl, hm9⟩
      show Ex E MX10_many Q 38 [(0, .ref 0), (1, .int x1), (2, .int x2), (3, .int x3), (4, .int x4)] [.long r10] m9
      exact x_lret rfl (dk zX10_many 16 rfl) hm9
    · have hc8f := hm6.2 c8
      refine x_iload_n 3 rfl rfl (dk zX10_many 6 rfl) ?_
      refine x_callS (as := [.int x3]) (st := []) rfl okRX10_153 npX10_isTown ⟨Nat.le_of_ble_eq_true rfl, Nat.le_of_ble_eq_true rfl⟩ (Nat.le_of_ble_eq_true rfl) (dk zX10_many 7 rfl) ?_
      refine hc8f.mono ?_
      rintro _ m11 ⟨r12, rfl, hm11⟩
      show Ex E MX10_many Q 18 [(0, .ref 0), (1, .int x1), (2, .int x2), (3, .int x3), (4, .int x4)] [.int r12] m11
      refine x_if_eq (tgt := 33) (by decide) (dk zX10_many 8 rfl) (fun c13 => ?_) (fun c13 => ?_)
      · have hc13t := hm11.1 c13
        refine x_bipush (v := -2) (by decide) (dk zX10_many 14 rfl) ?_
        refine x_callS (as := [.int ((-2))]) (st := []) rfl okRX10_174 npX10_longRefusal ⟨Nat.le_of_ble_eq_true rfl, Nat.le_of_ble_eq_true rfl⟩ (Nat.le_of_ble_eq_true rfl) (dk zX10_many 15 rfl) ?_
        refine hc13t.mono ?_
        rintro _ m14 ⟨r15, rfl, hm14⟩
        show Ex E MX10_many Q 38 [(0, .ref 0), (1, .int x1), (2, .int x2), (3, .int x3), (4, .int x4)] [.long r15] m14
        exact x_lret rfl (dk zX10_many 16 rfl) hm14
      · have hc13f := hm11.2 c13
        refine x_iload 4 rfl (dk zX10_many 9 rfl) ?_
        refine x_if_lt (tgt := 33) (by decide) (dk zX10_many 10 rfl) (fun c16 => ?_) (fun c16 => ?_)
        · have hc16t := hc13f.1 c16
          refine x_bipush (v := -2) (by decide) (dk zX10_many 14 rfl) ?_
          refine x_callS (as := [.int ((-2))]) (st := []) rfl okRX10_174 npX10_longRefusal ⟨Nat.le_of_ble_eq_true rfl, Nat.le_of_ble_eq_true rfl⟩ (Nat.le_of_ble_eq_true rfl) (dk zX10_many 15 rfl) ?_
          refine hc16t.mono ?_
          rintro _ m17 ⟨r18, rfl, hm17⟩
          show Ex E MX10_many Q 38 [(0, .ref 0), (1, .int x1), (2, .int x2), (3, .int x3), (4, .int x4)] [.long r18] m17
          exact x_lret rfl (dk zX10_many 16 rfl) hm17
        · have hc16f := hc13f.2 c16
          refine x_iload 4 rfl (dk zX10_many 11 rfl) ?_
          refine x_bipush (v := 12) (by decide) (dk zX10_many 12 rfl) ?_
          refine x_icmp_le (tgt := 39) (by decide) (dk zX10_many 13 rfl) (fun c19 => ?_) (fun c19 => ?_)
          · have hc19t := hc16f.1 c19
            refine x_aload_n 0 rfl rfl (dk zX10_many 17 rfl) ?_
            refine x_iload_n 2 rfl rfl (dk zX10_many 18 rfl) ?_
            refine x_aload_n 0 rfl rfl (dk zX10_many 19 rfl) ?_
            refine gf10_2 (r := 4) rfl k0 r0_2 (dk zX10_many 20 rfl) ?_
            refine x_callV (as := [.int x2, .ref 4]) (o := 0) (ci := 10) (st := []) rfl okRX10_142 npX10_stampWay ⟨Nat.le_of_ble_eq_true rfl, Nat.le_of_ble_eq_true rfl⟩ k0 (by decide) rfl (Nat.le_of_ble_eq_true rfl) (dk zX10_many 21 rfl) ?_
            refine hc19t.mono ?_
            rintro _ m20 ⟨rfl, hm20⟩
            show Ex E MX10_many Q 48 [(0, .ref 0), (1, .int x1), (2, .int x2), (3, .int x3), (4, .int x4)] [] m20
            refine x_aload_n 0 rfl rfl (dk zX10_many 22 rfl) ?_
            refine gf10_7 (r := 42) rfl k0 r0_7 (dk zX10_many 23 rfl) ?_
            refine x_iload_n 1 rfl rfl (dk zX10_many 24 rfl) ?_
            refine x_aload_n 0 rfl rfl (dk zX10_many 25 rfl) ?_
            refine gf10_2 (r := 4) rfl k0 r0_2 (dk zX10_many 26 rfl) ?_
            refine x_iload_n 3 rfl rfl (dk zX10_many 27 rfl) ?_
            refine x_iload 4 rfl (dk zX10_many 28 rfl) ?_
            refine x_callV (as := [.int x1, .ref 4, .int x3, .int x4]) (o := 42) (ci := 9) (st := []) rfl okRX10_211 npX9_number ⟨Nat.le_of_ble_eq_true rfl, Nat.le_of_ble_eq_true rfl⟩ k42 (by decide) rfl (Nat.le_of_ble_eq_true rfl) (dk zX10_many 29 rfl) ?_
            refine hm20.mono ?_
            rintro _ m21 ⟨r22, rfl, hm21⟩
            show Ex E MX10_many Q 63 [(0, .ref 0), (1, .int x1), (2, .int x2), (3, .int x3), (4, .int x4)] [.long r22] m21
            exact x_lret rfl (dk zX10_many 30 rfl) hm21
          · have hc19f := hc16f.2 c19
            refine x_bipush (v := -2) (by decide) (dk zX10_many 14 rfl) ?_
            refine x_callS (as := [.int ((-2))]) (st := []) rfl okRX10_174 npX10_longRefusal ⟨Nat.le_of_ble_eq_true rfl, Nat.le_of_ble_eq_true rfl⟩ (Nat.le_of_ble_eq_true rfl) (dk zX10_many 15 rfl) ?_
            refine hc19f.mono ?_
            rintro _ m23 ⟨r24, rfl, hm23⟩
            show Ex E MX10_many Q 38 [(0, .ref 0), (1, .int x1), (2, .int x2), (3, .int x3), (4, .int x4)] [.long r24] m23
            exact x_lret rfl (dk zX10_many 16 rfl) hm23
set_option maxRecDepth 20000 in
set_option maxHeartbeats 2000000 in
theorem gX10_list_0 {E : EV} {Q : Po} {μ : Mem} {x1 : Int32} {x2 : Int32} (h : Sp E MX10_isWay [.int x1] μ (fun v m1 => ∃ r2 : Int32, v = some (.int r2) ∧ ((r2 = 0 → Q (some (.int ((-2)))) m1) ∧ (¬ r2 = 0 → ((x2 < 0 → Q (some (.int ((-2)))) m1) ∧ (¬ x2 < 0 → ((x2 ≤ 1 → Sp E MX4_isFull [.ref 78] m1 (fun v m6 => ∃ r7 : Int32, v = some (.int r7) ∧ ((r7 = 0 → Sp E MX10_stampWay [.ref 0, .int x1, .ref 4] m6 (fun v m9 => v = none ∧ Sp E MX4_append [.ref 78, .ref 4, .int x2] m9 (fun v m10 => v = none ∧ Sp E MX4_size [.ref 78] m10 (fun v m11 => ∃ r12 : Int32, v = some (.int r12) ∧ Q (some (.int r12)) m11)))) ∧ (¬ r7 = 0 → Q (some (.int ((-4)))) m6)))) ∧ (¬ x2 ≤ 1 → Q (some (.int ((-2)))) m1)))))))) : Ex E MX10_list Q 0 [(0, .ref 0), (1, .int x1), (2, .int x2)] [] μ := by
  refine x_iload_n 1 rfl rfl (dk zX10_list 0 rfl) ?_
  refine x_callS (as := [.int x1]) (st := []) rfl okRX10_139 npX10_isWay ⟨Nat.le_of_ble_eq_true rfl, Nat.le_of_ble_eq_true rfl⟩ (Nat.le_of_ble_eq_true rfl) (dk zX10_list 1 rfl) ?_
  refine h.mono ?_
  rintro _ m1 ⟨r2, rfl, hm1⟩
  show Ex E MX10_list Q 4 [(0, .ref 0), (1, .int x1), (2, .int x2)] [.int r2] m1
  refine x_if_eq (tgt := 16) (by decide) (dk zX10_list 2 rfl) (fun c3 => ?_) (fun c3 => ?_)
  · have hc3t := hm1.1 c3
    refine x_bipush (v := -2) (by decide) (dk zX10_list 8 rfl) ?_
    exact x_iret (ty := .int) rfl rfl (dk zX10_list 9 rfl) hc3t
  · have hc3f := hm1.2 c3
    refine x_iload_n 2 rfl rfl (dk zX10_list 3 rfl) ?_
    refine x_if_lt (tgt := 16) (by decide) (dk zX10_list 4 rfl) (fun c4 => ?_) (fun c4 => ?_)
    · have hc4t := hc3f.1 c4
      refine x_bipush (v := -2) (by decide) (dk zX10_list 8 rfl) ?_
      exact x_iret (ty := .int) rfl rfl (dk zX10_list 9 rfl) hc4t
    · have hc4f := hc3f.2 c4
      refine x_iload_n 2 rfl rfl (dk zX10_list 5 rfl) ?_
      refine x_iconst (v := 1) (by decide) (dk zX10_list 6 rfl) ?_
      refine x_icmp_le (tgt := 19) (by decide) (dk zX10_list 7 rfl) (fun c5 => ?_) (fun c5 => ?_)
      · have hc5t := hc4f.1 c5
        refine x_aload_n 0 rfl rfl (dk zX10_list 10 rfl) ?_
        refine gf10_8 (r := 78) rfl k0 r0_8 (dk zX10_list 11 rfl) ?_
        refine x_callV (as := []) (o := 78) (ci := 4) (st := []) rfl okRX10_215 npX4_isFull ⟨Nat.le_of_ble_eq_true rfl, Nat.le_of_ble_eq_true rfl⟩ k78 (by decide) rfl (Nat.le_of_ble_eq_true rfl) (dk zX10_list 12 rfl) ?_
        refine hc5t.mono ?_
        rintro _ m6 ⟨r7, rfl, hm6⟩
        show Ex E MX10_list Q 26 [(0, .ref 0), (1, .int x1), (2, .int x2)] [.int r7] m6
        refine x_if_eq (tgt := 32) (by decide) (dk zX10_list 13 rfl) (fun c8 => ?_) (fun c8 => ?_)
        · have hc8t := hm6.1 c8
          refine x_aload_n 0 rfl rfl (dk zX10_list 16 rfl) ?_
          refine x_iload_n 1 rfl rfl (dk zX10_list 17 rfl) ?_
          refine x_aload_n 0 rfl rfl (dk zX10_list 18 rfl) ?_
          refine gf10_2 (r := 4) rfl k0 r0_2 (dk zX10_list 19 rfl) ?_
          refine x_callV (as := [.int x1, .ref 4]) (o := 0) (ci := 10) (st := []) rfl okRX10_142 npX10_stampWay ⟨Nat.le_of_ble_eq_true rfl, Nat.le_of_ble_eq_true rfl⟩ k0 (by decide) rfl (Nat.le_of_ble_eq_true rfl) (dk zX10_list 20 rfl) ?_
          refine hc8t.mono ?_
          rintro _ m9 ⟨rfl, hm9⟩
          show Ex E MX10_list Q 41 [(0, .ref 0), (1, .int x1), (2, .int x2)] [] m9
          refine x_aload_n 0 rfl rfl (dk zX10_list 21 rfl) ?_
          refine gf10_8 (r := 78) rfl k0 r0_8 (dk zX10_list 22 rfl) ?_
          refine x_aload_n 0 rfl rfl (dk zX10_list 23 rfl) ?_
          refine gf10_2 (r := 4) rfl k0 r0_2 (dk zX10_list 24 rfl) ?_
          refine x_iload_n 2 rfl rfl (dk zX10_list 25 rfl) ?_
          refine x_callV (as := [.ref 4, .int x2]) (o := 78) (ci := 4) (st := []) rfl okRX10_216 npX4_append ⟨Nat.le_of_ble_eq_true rfl, Nat.le_of_ble_eq_true rfl⟩ k78 (by decide) rfl (Nat.le_of_ble_eq_true rfl) (dk zX10_list 26 rfl) ?_
          refine hm9.mono ?_
          rintro _ m10 ⟨rfl, hm10⟩
          show Ex E MX10_list Q 53 [(0, .ref 0), (1, .int x1), (2, .int x2)] [] m10
          refine x_aload_n 0 rfl rfl (dk zX10_list 27 rfl) ?_
          refine gf10_8 (r := 78) rfl k0 r0_8 (dk zX10_list 28 rfl) ?_
          refine x_callV (as := []) (o := 78) (ci := 4) (st := []) rfl okRX10_219 npX4_size ⟨Nat.le_of_ble_eq_true rfl, Nat.le_of_ble_eq_true rfl⟩ k78 (by decide) rfl (Nat.le_of_ble_eq_true rfl) (dk zX10_list 29 rfl) ?_
          refine hm10.mono ?_
          rintro _ m11 ⟨r12, rfl, hm11⟩
          show Ex E MX10_list Q 60 [(0, .ref 0), (1, .int x1), (2, .int x2)] [.int r12] m11
          exact x_iret (ty := .int) rfl rfl (dk zX10_list 30 rfl) hm11
        · have hc8f := hm6.2 c8
          refine x_bipush (v := -4) (by decide) (dk zX10_list 14 rfl) ?_
          exact x_iret (ty := .int) rfl rfl (dk zX10_list 15 rfl) hc8f
      · have hc5f := hc4f.2 c5
        refine x_bipush (v := -2) (by decide) (dk zX10_list 8 rfl) ?_
        exact x_iret (ty := .int) rfl rfl (dk zX10_list 9 rfl) hc5f
set_option maxRecDepth 20000 in
set_option maxHeartbeats 2000000 in
theorem gX10_isSheet_0 {E : EV} {Q : Po} {μ : Mem} {x0 : Int32} (h : ((x0 < 0 → Q (some (.int 0)) μ) ∧ (¬ x0 < 0 → ((4 ≤ x0 → Q (some (.int 0)) μ) ∧ (¬ 4 ≤ x0 → Q (some (.int 1)) μ))))) : Ex E MX10_isSheet Q 0 [(0, .int x0)] [] μ := by
  refine x_iload_n 0 rfl rfl (dk zX10_isSheet 0 rfl) ?_
  refine x_if_lt (tgt := 13) (by decide) (dk zX10_isSheet 1 rfl) (fun c1 => ?_) (fun c1 => ?_)
  · have hc1t := h.1 c1
    refine x_iconst (v := 0) (by decide) (dk zX10_isSheet 7 rfl) ?_
    exact x_iret rfl rfl (dk zX10_isSheet 8 rfl) hc1t
  · have hc1f := h.2 c1
    refine x_iload_n 0 rfl rfl (dk zX10_isSheet 2 rfl) ?_
    refine x_iconst (v := 4) (by decide) (dk zX10_isSheet 3 rfl) ?_
    refine x_icmp_ge (tgt := 13) (by decide) (dk zX10_isSheet 4 rfl) (fun c2 => ?_) (fun c2 => ?_)
    · have hc2t := hc1f.1 c2
      refine x_iconst (v := 0) (by decide) (dk zX10_isSheet 7 rfl) ?_
      exact x_iret rfl rfl (dk zX10_isSheet 8 rfl) hc2t
    · have hc2f := hc1f.2 c2
      refine x_iconst (v := 1) (by decide) (dk zX10_isSheet 5 rfl) ?_
      refine x_goto (tgt := 14) (by decide) (dk zX10_isSheet 6 rfl) ?_
      exact x_iret rfl rfl (dk zX10_isSheet 8 rfl) hc2f
set_option maxRecDepth 20000 in
set_option maxHeartbeats 2000000 in
theorem gX10_listIfRoom_0 {E : EV} {Q : Po} {μ : Mem} {x1 : Nat} (hk1 : kd x1 = 5) (h : Sp E MX4_isFull [.ref 78] μ (fun v m1 => ∃ r2 : Int32, v = some (.int r2) ∧ ((¬ r2 = 0 → Q none m1) ∧ (r2 = 0 → Sp E MX4_append [.ref 78, .ref x1, .int 1] m1 (fun v m4 => v = none ∧ Q none m4))))) : Ex E MX10_listIfRoom Q 0 [(0, .ref 0), (1, .ref x1)] [] μ := by
  refine x_aload_n 0 rfl rfl (dk zX10_listIfRoom 0 rfl) ?_
  refine gf10_8 (r := 78) rfl k0 r0_8 (dk zX10_listIfRoom 1 rfl) ?_
  refine x_callV (as := []) (o := 78) (ci := 4) (st := []) rfl okRX10_215 npX4_isFull ⟨Nat.le_of_ble_eq_true rfl, Nat.le_of_ble_eq_true rfl⟩ k78 (by decide) rfl (Nat.le_of_ble_eq_true rfl) (dk zX10_listIfRoom 2 rfl) ?_
  refine h.mono ?_
  rintro _ m1 ⟨r2, rfl, hm1⟩
  show Ex E MX10_listIfRoom Q 7 [(0, .ref 0), (1, .ref x1)] [.int r2] m1
  refine x_if_ne (tgt := 19) (by decide) (dk zX10_listIfRoom 3 rfl) (fun c3 => ?_) (fun c3 => ?_)
  · have hc3t := hm1.1 c3
    exact x_vret rfl (dk zX10_listIfRoom 9 rfl) hc3t
  · have hc3f := hm1.2 c3
    refine x_aload_n 0 rfl rfl (dk zX10_listIfRoom 4 rfl) ?_
    refine gf10_8 (r := 78) rfl k0 r0_8 (dk zX10_listIfRoom 5 rfl) ?_
    refine x_aload_n 1 rfl rfl (dk zX10_listIfRoom 6 rfl) ?_
    refine x_iconst (v := 1) (by decide) (dk zX10_listIfRoom 7 rfl) ?_
    refine x_callV (as := [.ref x1, .int 1]) (o := 78) (ci := 4) (st := []) rfl okRX10_216 npX4_append ⟨Nat.le_of_ble_eq_true rfl, Nat.le_of_ble_eq_true rfl⟩ k78 (by decide) rfl (Nat.le_of_ble_eq_true rfl) (dk zX10_listIfRoom 8 rfl) ?_
    refine hc3f.mono ?_
    rintro _ m4 ⟨rfl, hm4⟩
    show Ex E MX10_listIfRoom Q 19 [(0, .ref 0), (1, .ref x1)] [] m4
    exact x_vret rfl (dk zX10_listIfRoom 9 rfl) hm4
set_option maxRecDepth 20000 in
set_option maxHeartbeats 2000000 in
theorem gX10_read_0 {E : EV} {Q : Po} {μ : Mem} {x1 : Int32} (h : Sp E MX10_isSheet [.int x1] μ (fun v m1 => ∃ r2 : Int32, v = some (.int r2) ∧ ((¬ r2 = 0 → Sp E MX7_isLost [.ref 107, .int x1] m1 (fun v m4 => ∃ r5 : Int32, v = some (.int r5) ∧ ((r5 = 0 → Sp E MX4_size [.ref 78] m4 (fun v m7 => ∃ r8 : Int32, v = some (.int r8) ∧ Sp E MX5_empty [.ref 4] m7 (fun v m9 => v = none ∧ Ex E MX10_read Q 47 [(0, .ref 0), (1, .int x1), (2, .int r8), (3, .int 0)] [] m9))) ∧ (¬ r5 = 0 → Sp E MX7_find [.ref 107, .int 1] m4 (fun v m10 => ∃ r11 : Int32, v = some (.int r11) ∧ Q (some (.int r11)) m10))))) ∧ (r2 = 0 → Q (some (.int ((-2)))) m1)))) : Ex E MX10_read Q 0 [(0, .ref 0), (1, .int x1)] [] μ := by
  refine x_iload_n 1 rfl rfl (dk zX10_read 0 rfl) ?_
  refine x_callS (as := [.int x1]) (st := []) rfl okRX10_220 npX10_isSheet ⟨Nat.le_of_ble_eq_true rfl, Nat.le_of_ble_eq_true rfl⟩ (Nat.le_of_ble_eq_true rfl) (dk zX10_read 1 rfl) ?_
  refine h.mono ?_
  rintro _ m1 ⟨r2, rfl, hm1⟩
  show Ex E MX10_read Q 4 [(0, .ref 0), (1, .int x1)] [.int r2] m1
  refine x_if_ne (tgt := 10) (by decide) (dk zX10_read 2 rfl) (fun c3 => ?_) (fun c3 => ?_)
  · have hc3t := hm1.1 c3
    refine x_aload_n 0 rfl rfl (dk zX10_read 5 rfl) ?_
    refine gf10_11 (r := 107) rfl k0 r0_11 (dk zX10_read 6 rfl) ?_
    refine x_iload_n 1 rfl rfl (dk zX10_read 7 rfl) ?_
    refine x_callV (as := [.int x1]) (o := 107) (ci := 7) (st := []) rfl okRX10_223 npX7_isLost ⟨Nat.le_of_ble_eq_true rfl, Nat.le_of_ble_eq_true rfl⟩ k107 (by decide) rfl (Nat.le_of_ble_eq_true rfl) (dk zX10_read 8 rfl) ?_
    refine hc3t.mono ?_
    rintro _ m4 ⟨r5, rfl, hm4⟩
    show Ex E MX10_read Q 18 [(0, .ref 0), (1, .int x1)] [.int r5] m4
    refine x_if_eq (tgt := 30) (by decide) (dk zX10_read 9 rfl) (fun c6 => ?_) (fun c6 => ?_)
    · have hc6t := hm4.1 c6
      refine x_aload_n 0 rfl rfl (dk zX10_read 15 rfl) ?_
      refine gf10_8 (r := 78) rfl k0 r0_8 (dk zX10_read 16 rfl) ?_
      refine x_callV (as := []) (o := 78) (ci := 4) (st := []) rfl okRX10_219 npX4_size ⟨Nat.le_of_ble_eq_true rfl, Nat.le_of_ble_eq_true rfl⟩ k78 (by decide) rfl (Nat.le_of_ble_eq_true rfl) (dk zX10_read 17 rfl) ?_
      refine hc6t.mono ?_
      rintro _ m7 ⟨r8, rfl, hm7⟩
      show Ex E MX10_read Q 37 [(0, .ref 0), (1, .int x1)] [.int r8] m7
      refine x_istore_n (k := 2) (l' := [(0, .ref 0), (1, .int x1), (2, .int r8)]) [1, 2, 0] rfl rfl (by decide) (dk zX10_read 18 rfl) ?_
      refine x_aload_n 0 rfl rfl (dk zX10_read 19 rfl) ?_
      refine gf10_2 (r := 4) rfl k0 r0_2 (dk zX10_read 20 rfl) ?_
      refine x_callV (as := []) (o := 4) (ci := 5) (st := []) rfl okRX10_200 npX5_empty ⟨Nat.le_of_ble_eq_true rfl, Nat.le_of_ble_eq_true rfl⟩ k4 (by decide) rfl (Nat.le_of_ble_eq_true rfl) (dk zX10_read 21 rfl) ?_
      refine hm7.mono ?_
      rintro _ m9 ⟨rfl, hm9⟩
      show Ex E MX10_read Q 45 [(0, .ref 0), (1, .int x1), (2, .int r8)] [] m9
      refine x_iconst (v := 0) (by decide) (dk zX10_read 22 rfl) ?_
      refine x_istore_n (k := 3) (l' := [(0, .ref 0), (1, .int x1), (2, .int r8), (3, .int 0)]) [1, 2, 3, 0] rfl rfl (by decide) (dk zX10_read 23 rfl) ?_
      exact hm9
    · have hc6f := hm4.2 c6
      refine x_aload_n 0 rfl rfl (dk zX10_read 10 rfl) ?_
      refine gf10_11 (r := 107) rfl k0 r0_11 (dk zX10_read 11 rfl) ?_
      refine x_iconst (v := 1) (by decide) (dk zX10_read 12 rfl) ?_
      refine x_callV (as := [.int 1]) (o := 107) (ci := 7) (st := []) rfl okRX10_226 npX7_find ⟨Nat.le_of_ble_eq_true rfl, Nat.le_of_ble_eq_true rfl⟩ k107 (by decide) rfl (Nat.le_of_ble_eq_true rfl) (dk zX10_read 13 rfl) ?_
      refine hc6f.mono ?_
      rintro _ m10 ⟨r11, rfl, hm10⟩
      show Ex E MX10_read Q 29 [(0, .ref 0), (1, .int x1)] [.int r11] m10
      exact x_iret (ty := .int) rfl rfl (dk zX10_read 14 rfl) hm10
  · have hc3f := hm1.2 c3
    refine x_bipush (v := -2) (by decide) (dk zX10_read 3 rfl) ?_
    exact x_iret (ty := .int) rfl rfl (dk zX10_read 4 rfl) hc3f
set_option maxRecDepth 20000 in
set_option maxHeartbeats 2000000 in
theorem gX10_read_47 {E : EV} {Q : Po} {μ : Mem} {x1 : Int32} {x2 : Int32} {x3 : Int32} (h : Sp E MX7_size [.ref 107, .int x1] μ (fun v m1 => ∃ r2 : Int32, v = some (.int r2) ∧ ((r2 < x3 → Sp E MX4_size [.ref 78] m1 (fun v m4 => ∃ r5 : Int32, v = some (.int r5) ∧ Q (some (.int (r5 - x2))) m4)) ∧ (¬ r2 < x3 → Sp E MX7_size [.ref 107, .int x1] m1 (fun v m6 => ∃ r7 : Int32, v = some (.int r7) ∧ ((r7 ≤ x3 → Sp E MX10_listIfRoom [.ref 0, .ref 4] m6 (fun v m9 => v = none ∧ Sp E MX5_empty [.ref 4] m9 (fun v m10 => v = none ∧ ∀ v11 : Int32, v11 = x3 + 1 → Ex E MX10_read Q 47 [(0, .ref 0), (1, .int x1), (2, .int x2), (3, .int v11)] [] m10))) ∧ (¬ r7 ≤ x3 → Sp E MX7_item [.ref 107, .int x1, .int x3] m6 (fun v m12 => ∃ r13 : Int32, v = some (.int r13) ∧ Sp E MX3_letterOf [.ref 1, .int r13] m12 (fun v m14 => ∃ r15 : Int32, v = some (.int r15) ∧ ((¬ r15 = ((-1)) → Sp E MX3_isWatched [.ref 1, .int r15] m14 (fun v m17 => ∃ r18 : Int32, v = some (.int r18) ∧ ((r18 = 0 → ∀ v20 : Int32, v20 = x3 + 1 → Ex E MX10_read Q 47 [(0, .ref 0), (1, .int x1), (2, .int x2), (3, .int v20)] [] m17) ∧ (¬ r18 = 0 → Sp E MX5_stamp [.ref 4, .int r15] m17 (fun v m21 => v = none ∧ ∀ v22 : Int32, v22 = x3 + 1 → Ex E MX10_read Q 47 [(0, .ref 0), (1, .int x1), (2, .int x2), (3, .int v22)] [] m21))))) ∧ (r15 = ((-1)) → Sp E MX10_listIfRoom [.ref 0, .ref 4] m14 (fun v m23 => v = none ∧ Sp E MX5_empty [.ref 4] m23 (fun v m24 => v = none ∧ ∀ v25 : Int32, v25 = x3 + 1 → Ex E MX10_read Q 47 [(0, .ref 0), (1, .int x1), (2, .int x2), (3, .int v25)] [] m24))))))))))))) : Ex E MX10_read Q 47 [(0, .ref 0), (1, .int x1), (2, .int x2), (3, .int x3)] [] μ := by
  refine x_iload_n 3 rfl rfl (dk zX10_read 24 rfl) ?_
  refine x_aload_n 0 rfl rfl (dk zX10_read 25 rfl) ?_
  refine gf10_11 (r := 107) rfl k0 r0_11 (dk zX10_read 26 rfl) ?_
  refine x_iload_n 1 rfl rfl (dk zX10_read 27 rfl) ?_
  refine x_callV (as := [.int x1]) (o := 107) (ci := 7) (st := [.int x3]) rfl okRX10_229 npX7_size ⟨Nat.le_of_ble_eq_true rfl, Nat.le_of_ble_eq_true rfl⟩ k107 (by decide) rfl (Nat.le_of_ble_eq_true rfl) (dk zX10_read 28 rfl) ?_
  refine h.mono ?_
  rintro _ m1 ⟨r2, rfl, hm1⟩
  show Ex E MX10_read Q 56 [(0, .ref 0), (1, .int x1), (2, .int x2), (3, .int x3)] [.int r2, .int x3] m1
  refine x_icmp_gt (tgt := 144) (by decide) (dk zX10_read 29 rfl) (fun c3 => ?_) (fun c3 => ?_)
  · have hc3t := hm1.1 c3
    refine x_aload_n 0 rfl rfl (dk zX10_read 69 rfl) ?_
    refine gf10_8 (r := 78) rfl k0 r0_8 (dk zX10_read 70 rfl) ?_
    refine x_callV (as := []) (o := 78) (ci := 4) (st := []) rfl okRX10_219 npX4_size ⟨Nat.le_of_ble_eq_true rfl, Nat.le_of_ble_eq_true rfl⟩ k78 (by decide) rfl (Nat.le_of_ble_eq_true rfl) (dk zX10_read 71 rfl) ?_
    refine hc3t.mono ?_
    rintro _ m4 ⟨r5, rfl, hm4⟩
    show Ex E MX10_read Q 151 [(0, .ref 0), (1, .int x1), (2, .int x2), (3, .int x3)] [.int r5] m4
    refine x_iload_n 2 rfl rfl (dk zX10_read 72 rfl) ?_
    refine x_isub (dk zX10_read 73 rfl) ?_
    exact x_iret (ty := .int) rfl rfl (dk zX10_read 74 rfl) hm4
  · have hc3f := hm1.2 c3
    refine x_iload_n 3 rfl rfl (dk zX10_read 30 rfl) ?_
    refine x_aload_n 0 rfl rfl (dk zX10_read 31 rfl) ?_
    refine gf10_11 (r := 107) rfl k0 r0_11 (dk zX10_read 32 rfl) ?_
    refine x_iload_n 1 rfl rfl (dk zX10_read 33 rfl) ?_
    refine x_callV (as := [.int x1]) (o := 107) (ci := 7) (st := [.int x3]) rfl okRX10_229 npX7_size ⟨Nat.le_of_ble_eq_true rfl, Nat.le_of_ble_eq_true rfl⟩ k107 (by decide) rfl (Nat.le_of_ble_eq_true rfl) (dk zX10_read 34 rfl) ?_
    refine hc3f.mono ?_
    rintro _ m6 ⟨r7, rfl, hm6⟩
    show Ex E MX10_read Q 68 [(0, .ref 0), (1, .int x1), (2, .int x2), (3, .int x3)] [.int r7, .int x3] m6
    refine x_icmp_ge (tgt := 90) (by decide) (dk zX10_read 35 rfl) (fun c8 => ?_) (fun c8 => ?_)
    · have hc8t := hm6.1 c8
      refine x_iconst (v := -1) (by decide) (dk zX10_read 45 rfl) ?_
      refine x_istoreG (l' := [(0, .ref 0), (1, .int x1), (2, .int x2), (3, .int x3), (4, .int ((-1)))]) [1, 2, 3, 4, 0] rfl (by decide) (dk zX10_read 46 rfl) ?_
      refine x_iload 4 rfl (dk zX10_read 47 rfl) ?_
      refine x_iconst (v := -1) (by decide) (dk zX10_read 48 rfl) ?_
      refine x_icmp_ne (tgt := 117) (by decide) (dk zX10_read 49 rfl) (fun c => absurd c (by decide)) (fun _ => ?_)
      refine x_aload_n 0 rfl rfl (dk zX10_read 50 rfl) ?_
      refine x_aload_n 0 rfl rfl (dk zX10_read 51 rfl) ?_
      refine gf10_2 (r := 4) rfl k0 r0_2 (dk zX10_read 52 rfl) ?_
      refine x_callV (as := [.ref 4]) (o := 0) (ci := 10) (st := []) rfl okRX10_237 npX10_listIfRoom ⟨Nat.le_of_ble_eq_true rfl, Nat.le_of_ble_eq_true rfl⟩ k0 (by decide) rfl (Nat.le_of_ble_eq_true rfl) (dk zX10_read 53 rfl) ?_
      refine hc8t.mono ?_
      rintro _ m9 ⟨rfl, hm9⟩
      show Ex E MX10_read Q 107 [(0, .ref 0), (1, .int x1), (2, .int x2), (3, .int x3), (4, .int ((-1)))] [] m9
      refine x_aload_n 0 rfl rfl (dk zX10_read 54 rfl) ?_
      refine gf10_2 (r := 4) rfl k0 r0_2 (dk zX10_read 55 rfl) ?_
      refine x_callV (as := []) (o := 4) (ci := 5) (st := []) rfl okRX10_200 npX5_empty ⟨Nat.le_of_ble_eq_true rfl, Nat.le_of_ble_eq_true rfl⟩ k4 (by decide) rfl (Nat.le_of_ble_eq_true rfl) (dk zX10_read 56 rfl) ?_
      refine hm9.mono ?_
      rintro _ m10 ⟨rfl, hm10⟩
      show Ex E MX10_read Q 114 [(0, .ref 0), (1, .int x1), (2, .int x2), (3, .int x3), (4, .int ((-1)))] [] m10
      refine x_goto (tgt := 138) (by decide) (dk zX10_read 57 rfl) ?_
      obtain ⟨v11, ev11⟩ : ∃ y : Int32, y = x3 + 1 := ⟨_, rfl⟩
      have hv11 := hm10 v11 ev11
      refine x_iinc (v := v11) (l' := [(0, .ref 0), (1, .int x1), (2, .int x2), (3, .int v11), (4, .int ((-1)))]) 3 rfl (by rw [ev11]; rfl) [1, 2, 3, 0, 4] rfl (by decide) (dk zX10_read 67 rfl) ?_
      refine x_goto (tgt := 47) (by decide) (dk zX10_read 68 rfl) ?_
      exact x_sub [0, 1, 2, 3] rfl hv11
    · have hc8f := hm6.2 c8
      refine x_aload_n 0 rfl rfl (dk zX10_read 36 rfl) ?_
      refine gf10_0 (r := 1) rfl k0 r0_0 (dk zX10_read 37 rfl) ?_
      refine x_aload_n 0 rfl rfl (dk zX10_read 38 rfl) ?_
      refine gf10_11 (r := 107) rfl k0 r0_11 (dk zX10_read 39 rfl) ?_
      refine x_iload_n 1 rfl rfl (dk zX10_read 40 rfl) ?_
      refine x_iload_n 3 rfl rfl (dk zX10_read 41 rfl) ?_
      refine x_callV (as := [.int x1, .int x3]) (o := 107) (ci := 7) (st := [.ref 1]) rfl okRX10_231 npX7_item ⟨Nat.le_of_ble_eq_true rfl, Nat.le_of_ble_eq_true rfl⟩ k107 (by decide) rfl (Nat.le_of_ble_eq_true rfl) (dk zX10_read 42 rfl) ?_
      refine hc8f.mono ?_
      rintro _ m12 ⟨r13, rfl, hm12⟩
      show Ex E MX10_read Q 84 [(0, .ref 0), (1, .int x1), (2, .int x2), (3, .int x3)] [.int r13, .ref 1] m12
      refine x_callV (as := [.int r13]) (o := 1) (ci := 3) (st := []) rfl okRX10_234 npX3_letterOf ⟨Nat.le_of_ble_eq_true rfl, Nat.le_of_ble_eq_true rfl⟩ k1 (by decide) rfl (Nat.le_of_ble_eq_true rfl) (dk zX10_read 43 rfl) ?_
      refine hm12.mono ?_
      rintro _ m14 ⟨r15, rfl, hm14⟩
      show Ex E MX10_read Q 87 [(0, .ref 0), (1, .int x1), (2, .int x2), (3, .int x3)] [.int r15] m14
      refine x_goto (tgt := 91) (by decide) (dk zX10_read 44 rfl) ?_
      refine x_istoreG (l' := [(0, .ref 0), (1, .int x1), (2, .int x2), (3, .int x3), (4, .int r15)]) [1, 2, 3, 4, 0] rfl (by decide) (dk zX10_read 46 rfl) ?_
      refine x_iload 4 rfl (dk zX10_read 47 rfl) ?_
      refine x_iconst (v := -1) (by decide) (dk zX10_read 48 rfl) ?_
      refine x_icmp_ne (tgt := 117) (by decide) (dk zX10_read 49 rfl) (fun c16 => ?_) (fun c16 => ?_)
      · have hc16t := hm14.1 c16
        refine x_aload_n 0 rfl rfl (dk zX10_read 58 rfl) ?_
        refine gf10_0 (r := 1) rfl k0 r0_0 (dk zX10_read 59 rfl) ?_
        refine x_iload 4 rfl (dk zX10_read 60 rfl) ?_
        refine x_callV (as := [.int r15]) (o := 1) (ci := 3) (st := []) rfl okRX10_127 npX3_isWatched ⟨Nat.le_of_ble_eq_true rfl, Nat.le_of_ble_eq_true rfl⟩ k1 (by decide) rfl (Nat.le_of_ble_eq_true rfl) (dk zX10_read 61 rfl) ?_
        refine hc16t.mono ?_
        rintro _ m17 ⟨r18, rfl, hm17⟩
        show Ex E MX10_read Q 126 [(0, .ref 0), (1, .int x1), (2, .int x2), (3, .int x3), (4, .int r15)] [.int r18] m17
        refine x_if_eq (tgt := 138) (by decide) (dk zX10_read 62 rfl) (fun c19 => ?_) (fun c19 => ?_)
        · have hc19t := hm17.1 c19
          obtain ⟨v20, ev20⟩ : ∃ y : Int32, y = x3 + 1 := ⟨_, rfl⟩
          have hv20 := hc19t v20 ev20
          refine x_iinc (v := v20) (l' := [(0, .ref 0), (1, .int x1), (2, .int x2), (3, .int v20), (4, .int r15)]) 3 rfl (by rw [ev20]; rfl) [1, 2, 3, 0, 4] rfl (by decide) (dk zX10_read 67 rfl) ?_
          refine x_goto (tgt := 47) (by decide) (dk zX10_read 68 rfl) ?_
          exact x_sub [0, 1, 2, 3] rfl hv20
        · have hc19f := hm17.2 c19
          refine x_aload_n 0 rfl rfl (dk zX10_read 63 rfl) ?_
          refine gf10_2 (r := 4) rfl k0 r0_2 (dk zX10_read 64 rfl) ?_
          refine x_iload 4 rfl (dk zX10_read 65 rfl) ?_
          refine x_callV (as := [.int r15]) (o := 4) (ci := 5) (st := []) rfl okRX10_241 npX5_stamp ⟨Nat.le_of_ble_eq_true rfl, Nat.le_of_ble_eq_true rfl⟩ k4 (by decide) rfl (Nat.le_of_ble_eq_true rfl) (dk zX10_read 66 rfl) ?_
          refine hc19f.mono ?_
          rintro _ m21 ⟨rfl, hm21⟩
          show Ex E MX10_read Q 138 [(0, .ref 0), (1, .int x1), (2, .int x2), (3, .int x3), (4, .int r15)] [] m21
          obtain ⟨v22, ev22⟩ : ∃ y : Int32, y = x3 + 1 := ⟨_, rfl⟩
          have hv22 := hm21 v22 ev22
          refine x_iinc (v := v22) (l' := [(0, .ref 0), (1, .int x1), (2, .int x2), (3, .int v22), (4, .int r15)]) 3 rfl (by rw [ev22]; rfl) [1, 2, 3, 0, 4] rfl (by decide) (dk zX10_read 67 rfl) ?_
          refine x_goto (tgt := 47) (by decide) (dk zX10_read 68 rfl) ?_
          exact x_sub [0, 1, 2, 3] rfl hv22
      · have hc16f := hm14.2 c16
        refine x_aload_n 0 rfl rfl (dk zX10_read 50 rfl) ?_
        refine x_aload_n 0 rfl rfl (dk zX10_read 51 rfl) ?_
        refine gf10_2 (r := 4) rfl k0 r0_2 (dk zX10_read 52 rfl) ?_
        refine x_callV (as := [.ref 4]) (o := 0) (ci := 10) (st := []) rfl okRX10_237 npX10_listIfRoom ⟨Nat.le_of_ble_eq_true rfl, Nat.le_of_ble_eq_true rfl⟩ k0 (by decide) rfl (Nat.le_of_ble_eq_true rfl) (dk zX10_read 53 rfl) ?_
        refine hc16f.mono ?_
        rintro _ m23 ⟨rfl, hm23⟩
        show Ex E MX10_read Q 107 [(0, .ref 0), (1, .int x1), (2, .int x2), (3, .int x3), (4, .int r15)] [] m23
        refine x_aload_n 0 rfl rfl (dk zX10_read 54 rfl) ?_
        refine gf10_2 (r := 4) rfl k0 r0_2 (dk zX10_read 55 rfl) ?_
        refine x_callV (as := []) (o := 4) (ci := 5) (st := []) rfl okRX10_200 npX5_empty ⟨Nat.le_of_ble_eq_true rfl, Nat.le_of_ble_eq_true rfl⟩ k4 (by decide) rfl (Nat.le_of_ble_eq_true rfl) (dk zX10_read 56 rfl) ?_
        refine hm23.mono ?_
        rintro _ m24 ⟨rfl, hm24⟩
        show Ex E MX10_read Q 114 [(0, .ref 0), (1, .int x1), (2, .int x2), (3, .int x3), (4, .int r15)] [] m24
        refine x_goto (tgt := 138) (by decide) (dk zX10_read 57 rfl) ?_
        obtain ⟨v25, ev25⟩ : ∃ y : Int32, y = x3 + 1 := ⟨_, rfl⟩
        have hv25 := hm24 v25 ev25
        refine x_iinc (v := v25) (l' := [(0, .ref 0), (1, .int x1), (2, .int x2), (3, .int v25), (4, .int r15)]) 3 rfl (by rw [ev25]; rfl) [1, 2, 3, 0, 4] rfl (by decide) (dk zX10_read 67 rfl) ?_
        refine x_goto (tgt := 47) (by decide) (dk zX10_read 68 rfl) ?_
        exact x_sub [0, 1, 2, 3] rfl hv25
set_option maxRecDepth 20000 in
set_option maxHeartbeats 2000000 in
theorem gX10_unlist_0 {E : EV} {Q : Po} {μ : Mem}  (h : Sp E MX4_size [.ref 78] μ (fun v m1 => ∃ r2 : Int32, v = some (.int r2) ∧ ((¬ r2 = 0 → Sp E MX4_dropLast [.ref 78] m1 (fun v m4 => v = none ∧ Sp E MX4_size [.ref 78] m4 (fun v m5 => ∃ r6 : Int32, v = some (.int r6) ∧ Q (some (.int r6)) m5))) ∧ (r2 = 0 → Q (some (.int ((-3)))) m1)))) : Ex E MX10_unlist Q 0 [(0, .ref 0)] [] μ := by
  refine x_aload_n 0 rfl rfl (dk zX10_unlist 0 rfl) ?_
  refine gf10_8 (r := 78) rfl k0 r0_8 (dk zX10_unlist 1 rfl) ?_
  refine x_callV (as := []) (o := 78) (ci := 4) (st := []) rfl okRX10_219 npX4_size ⟨Nat.le_of_ble_eq_true rfl, Nat.le_of_ble_eq_true rfl⟩ k78 (by decide) rfl (Nat.le_of_ble_eq_true rfl) (dk zX10_unlist 2 rfl) ?_
  refine h.mono ?_
  rintro _ m1 ⟨r2, rfl, hm1⟩
  show Ex E MX10_unlist Q 7 [(0, .ref 0)] [.int r2] m1
  refine x_if_ne (tgt := 13) (by decide) (dk zX10_unlist 3 rfl) (fun c3 => ?_) (fun c3 => ?_)
  · have hc3t := hm1.1 c3
    refine x_aload_n 0 rfl rfl (dk zX10_unlist 6 rfl) ?_
    refine gf10_8 (r := 78) rfl k0 r0_8 (dk zX10_unlist 7 rfl) ?_
    refine x_callV (as := []) (o := 78) (ci := 4) (st := []) rfl okRX10_244 npX4_dropLast ⟨Nat.le_of_ble_eq_true rfl, Nat.le_of_ble_eq_true rfl⟩ k78 (by decide) rfl (Nat.le_of_ble_eq_true rfl) (dk zX10_unlist 8 rfl) ?_
    refine hc3t.mono ?_
    rintro _ m4 ⟨rfl, hm4⟩
    show Ex E MX10_unlist Q 20 [(0, .ref 0)] [] m4
    refine x_aload_n 0 rfl rfl (dk zX10_unlist 9 rfl) ?_
    refine gf10_8 (r := 78) rfl k0 r0_8 (dk zX10_unlist 10 rfl) ?_
    refine x_callV (as := []) (o := 78) (ci := 4) (st := []) rfl okRX10_219 npX4_size ⟨Nat.le_of_ble_eq_true rfl, Nat.le_of_ble_eq_true rfl⟩ k78 (by decide) rfl (Nat.le_of_ble_eq_true rfl) (dk zX10_unlist 11 rfl) ?_
    refine hm4.mono ?_
    rintro _ m5 ⟨r6, rfl, hm5⟩
    show Ex E MX10_unlist Q 27 [(0, .ref 0)] [.int r6] m5
    exact x_iret (ty := .int) rfl rfl (dk zX10_unlist 12 rfl) hm5
  · have hc3f := hm1.2 c3
    refine x_bipush (v := -3) (by decide) (dk zX10_unlist 4 rfl) ?_
    exact x_iret (ty := .int) rfl rfl (dk zX10_unlist 5 rfl) hc3f
set_option maxRecDepth 20000 in
set_option maxHeartbeats 2000000 in
theorem gX10_listed_0 {E : EV} {Q : Po} {μ : Mem} {x1 : Int32} {x2 : Int32} (h : ((x1 < 0 → Q (some (.int ((-2)))) μ) ∧ (¬ x1 < 0 → Sp E MX4_size [.ref 78] μ (fun v m2 => ∃ r3 : Int32, v = some (.int r3) ∧ ((r3 ≤ x1 → Q (some (.int ((-2)))) m2) ∧ (¬ r3 ≤ x1 → ((x2 < ((-1)) → Q (some (.int ((-2)))) m2) ∧ (¬ x2 < ((-1)) → ((x2 < 11 → ((¬ x2 = ((-1)) → Sp E MX4_stampAt [.ref 78, .int x1, .int x2] m2 (fun v m8 => ∃ r9 : Int32, v = some (.int r9) ∧ Sp E MX10_byteOf [.int r9] m8 (fun v m10 => ∃ r11 : Int32, v = some (.int r11) ∧ Q (some (.int r11)) m10))) ∧ (x2 = ((-1)) → Sp E MX4_stampsOf [.ref 78, .int x1] m2 (fun v m12 => ∃ r13 : Int32, v = some (.int r13) ∧ Q (some (.int r13)) m12)))) ∧ (¬ x2 < 11 → Q (some (.int ((-2)))) m2)))))))))) : Ex E MX10_listed Q 0 [(0, .ref 0), (1, .int x1), (2, .int x2)] [] μ := by
  refine x_iload_n 1 rfl rfl (dk zX10_listed 0 rfl) ?_
  refine x_if_lt (tgt := 26) (by decide) (dk zX10_listed 1 rfl) (fun c1 => ?_) (fun c1 => ?_)
  · have hc1t := h.1 c1
    refine x_bipush (v := -2) (by decide) (dk zX10_listed 13 rfl) ?_
    exact x_iret (ty := .int) rfl rfl (dk zX10_listed 14 rfl) hc1t
  · have hc1f := h.2 c1
    refine x_iload_n 1 rfl rfl (dk zX10_listed 2 rfl) ?_
    refine x_aload_n 0 rfl rfl (dk zX10_listed 3 rfl) ?_
    refine gf10_8 (r := 78) rfl k0 r0_8 (dk zX10_listed 4 rfl) ?_
    refine x_callV (as := []) (o := 78) (ci := 4) (st := [.int x1]) rfl okRX10_219 npX4_size ⟨Nat.le_of_ble_eq_true rfl, Nat.le_of_ble_eq_true rfl⟩ k78 (by decide) rfl (Nat.le_of_ble_eq_true rfl) (dk zX10_listed 5 rfl) ?_
    refine hc1f.mono ?_
    rintro _ m2 ⟨r3, rfl, hm2⟩
    show Ex E MX10_listed Q 12 [(0, .ref 0), (1, .int x1), (2, .int x2)] [.int r3, .int x1] m2
    refine x_icmp_ge (tgt := 26) (by decide) (dk zX10_listed 6 rfl) (fun c4 => ?_) (fun c4 => ?_)
    · have hc4t := hm2.1 c4
      refine x_bipush (v := -2) (by decide) (dk zX10_listed 13 rfl) ?_
      exact x_iret (ty := .int) rfl rfl (dk zX10_listed 14 rfl) hc4t
    · have hc4f := hm2.2 c4
      refine x_iload_n 2 rfl rfl (dk zX10_listed 7 rfl) ?_
      refine x_iconst (v := -1) (by decide) (dk zX10_listed 8 rfl) ?_
      refine x_icmp_lt (tgt := 26) (by decide) (dk zX10_listed 9 rfl) (fun c5 => ?_) (fun c5 => ?_)
      · have hc5t := hc4f.1 c5
        refine x_bipush (v := -2) (by decide) (dk zX10_listed 13 rfl) ?_
        exact x_iret (ty := .int) rfl rfl (dk zX10_listed 14 rfl) hc5t
      · have hc5f := hc4f.2 c5
        refine x_iload_n 2 rfl rfl (dk zX10_listed 10 rfl) ?_
        refine x_bipush (v := 11) (by decide) (dk zX10_listed 11 rfl) ?_
        refine x_icmp_lt (tgt := 29) (by decide) (dk zX10_listed 12 rfl) (fun c6 => ?_) (fun c6 => ?_)
        · have hc6t := hc5f.1 c6
          refine x_iload_n 2 rfl rfl (dk zX10_listed 15 rfl) ?_
          refine x_iconst (v := -1) (by decide) (dk zX10_listed 16 rfl) ?_
          refine x_icmp_ne (tgt := 45) (by decide) (dk zX10_listed 17 rfl) (fun c7 => ?_) (fun c7 => ?_)
          · have hc7t := hc6t.1 c7
            refine x_aload_n 0 rfl rfl (dk zX10_listed 23 rfl) ?_
            refine gf10_8 (r := 78) rfl k0 r0_8 (dk zX10_listed 24 rfl) ?_
            refine x_iload_n 1 rfl rfl (dk zX10_listed 25 rfl) ?_
            refine x_iload_n 2 rfl rfl (dk zX10_listed 26 rfl) ?_
            refine x_callV (as := [.int x1, .int x2]) (o := 78) (ci := 4) (st := []) rfl okRX10_250 npX4_stampAt ⟨Nat.le_of_ble_eq_true rfl, Nat.le_of_ble_eq_true rfl⟩ k78 (by decide) rfl (Nat.le_of_ble_eq_true rfl) (dk zX10_listed 27 rfl) ?_
            refine hc7t.mono ?_
            rintro _ m8 ⟨r9, rfl, hm8⟩
            show Ex E MX10_listed Q 54 [(0, .ref 0), (1, .int x1), (2, .int x2)] [.int r9] m8
            refine x_callS (as := [.int r9]) (st := []) rfl okRX10_150 npX10_byteOf ⟨Nat.le_of_ble_eq_true rfl, Nat.le_of_ble_eq_true rfl⟩ (Nat.le_of_ble_eq_true rfl) (dk zX10_listed 28 rfl) ?_
            refine hm8.mono ?_
            rintro _ m10 ⟨r11, rfl, hm10⟩
            show Ex E MX10_listed Q 57 [(0, .ref 0), (1, .int x1), (2, .int x2)] [.int r11] m10
            exact x_iret (ty := .int) rfl rfl (dk zX10_listed 29 rfl) hm10
          · have hc7f := hc6t.2 c7
            refine x_aload_n 0 rfl rfl (dk zX10_listed 18 rfl) ?_
            refine gf10_8 (r := 78) rfl k0 r0_8 (dk zX10_listed 19 rfl) ?_
            refine x_iload_n 1 rfl rfl (dk zX10_listed 20 rfl) ?_
            refine x_callV (as := [.int x1]) (o := 78) (ci := 4) (st := []) rfl okRX10_247 npX4_stampsOf ⟨Nat.le_of_ble_eq_true rfl, Nat.le_of_ble_eq_true rfl⟩ k78 (by decide) rfl (Nat.le_of_ble_eq_true rfl) (dk zX10_listed 21 rfl) ?_
            refine hc7f.mono ?_
            rintro _ m12 ⟨r13, rfl, hm12⟩
            show Ex E MX10_listed Q 42 [(0, .ref 0), (1, .int x1), (2, .int x2)] [.int r13] m12
            refine x_goto (tgt := 57) (by decide) (dk zX10_listed 22 rfl) ?_
            exact x_iret (ty := .int) rfl rfl (dk zX10_listed 29 rfl) hm12
        · have hc6f := hc5f.2 c6
          refine x_bipush (v := -2) (by decide) (dk zX10_listed 13 rfl) ?_
          exact x_iret (ty := .int) rfl rfl (dk zX10_listed 14 rfl) hc6f
set_option maxRecDepth 20000 in
set_option maxHeartbeats 2000000 in
theorem gX10_arePlaces_0 {E : EV} {Q : Po} {μ : Mem} {x0 : Int32} (h : ((x0 < 0 → Q (some (.int 0)) μ) ∧ (¬ x0 < 0 → ((2047 < x0 → Q (some (.int 0)) μ) ∧ (¬ 2047 < x0 → Q (some (.int 1)) μ))))) : Ex E MX10_arePlaces Q 0 [(0, .int x0)] [] μ := by
  refine x_iload_n 0 rfl rfl (dk zX10_arePlaces 0 rfl) ?_
  refine x_if_lt (tgt := 15) (by decide) (dk zX10_arePlaces 1 rfl) (fun c1 => ?_) (fun c1 => ?_)
  · have hc1t := h.1 c1
    refine x_iconst (v := 0) (by decide) (dk zX10_arePlaces 7 rfl) ?_
    exact x_iret rfl rfl (dk zX10_arePlaces 8 rfl) hc1t
  · have hc1f := h.2 c1
    refine x_iload_n 0 rfl rfl (dk zX10_arePlaces 2 rfl) ?_
    refine x_sipush (v := 2047) (by decide) (dk zX10_arePlaces 3 rfl) ?_
    refine x_icmp_gt (tgt := 15) (by decide) (dk zX10_arePlaces 4 rfl) (fun c2 => ?_) (fun c2 => ?_)
    · have hc2t := hc1f.1 c2
      refine x_iconst (v := 0) (by decide) (dk zX10_arePlaces 7 rfl) ?_
      exact x_iret rfl rfl (dk zX10_arePlaces 8 rfl) hc2t
    · have hc2f := hc1f.2 c2
      refine x_iconst (v := 1) (by decide) (dk zX10_arePlaces 5 rfl) ?_
      refine x_goto (tgt := 16) (by decide) (dk zX10_arePlaces 6 rfl) ?_
      exact x_iret rfl rfl (dk zX10_arePlaces 8 rfl) hc2f
set_option maxRecDepth 20000 in
set_option maxHeartbeats 2000000 in
theorem gX10_lets_0 {E : EV} {Q : Po} {μ : Mem} {x1 : Int32} {x2 : Int32} (h : Sp E MX10_isWay [.int x1] μ (fun v m1 => ∃ r2 : Int32, v = some (.int r2) ∧ ((r2 = 0 → Q (some (.int ((-2)))) m1) ∧ (¬ r2 = 0 → Sp E MX10_arePlaces [.int x2] m1 (fun v m4 => ∃ r5 : Int32, v = some (.int r5) ∧ ((¬ r5 = 0 → Sp E MX10_stampWay [.ref 0, .int x1, .ref 4] m4 (fun v m7 => v = none ∧ Sp E MX4_letsBy [.ref 78, .ref 4, .int x2] m7 (fun v m8 => ∃ r9 : Int32, v = some (.int r9) ∧ ((r9 = 0 → Q (some (.int 0)) m8) ∧ (¬ r9 = 0 → Q (some (.int 1)) m8))))) ∧ (r5 = 0 → Q (some (.int ((-2)))) m4))))))) : Ex E MX10_lets Q 0 [(0, .ref 0), (1, .int x1), (2, .int x2)] [] μ := by
  refine x_iload_n 1 rfl rfl (dk zX10_lets 0 rfl) ?_
  refine x_callS (as := [.int x1]) (st := []) rfl okRX10_139 npX10_isWay ⟨Nat.le_of_ble_eq_true rfl, Nat.le_of_ble_eq_true rfl⟩ (Nat.le_of_ble_eq_true rfl) (dk zX10_lets 1 rfl) ?_
  refine h.mono ?_
  rintro _ m1 ⟨r2, rfl, hm1⟩
  show Ex E MX10_lets Q 4 [(0, .ref 0), (1, .int x1), (2, .int x2)] [.int r2] m1
  refine x_if_eq (tgt := 14) (by decide) (dk zX10_lets 2 rfl) (fun c3 => ?_) (fun c3 => ?_)
  · have hc3t := hm1.1 c3
    refine x_bipush (v := -2) (by decide) (dk zX10_lets 6 rfl) ?_
    exact x_iret (ty := .int) rfl rfl (dk zX10_lets 7 rfl) hc3t
  · have hc3f := hm1.2 c3
    refine x_iload_n 2 rfl rfl (dk zX10_lets 3 rfl) ?_
    refine x_callS (as := [.int x2]) (st := []) rfl okRX10_253 npX10_arePlaces ⟨Nat.le_of_ble_eq_true rfl, Nat.le_of_ble_eq_true rfl⟩ (Nat.le_of_ble_eq_true rfl) (dk zX10_lets 4 rfl) ?_
    refine hc3f.mono ?_
    rintro _ m4 ⟨r5, rfl, hm4⟩
    show Ex E MX10_lets Q 11 [(0, .ref 0), (1, .int x1), (2, .int x2)] [.int r5] m4
    refine x_if_ne (tgt := 17) (by decide) (dk zX10_lets 5 rfl) (fun c6 => ?_) (fun c6 => ?_)
    · have hc6t := hm4.1 c6
      refine x_aload_n 0 rfl rfl (dk zX10_lets 8 rfl) ?_
      refine x_iload_n 1 rfl rfl (dk zX10_lets 9 rfl) ?_
      refine x_aload_n 0 rfl rfl (dk zX10_lets 10 rfl) ?_
      refine gf10_2 (r := 4) rfl k0 r0_2 (dk zX10_lets 11 rfl) ?_
      refine x_callV (as := [.int x1, .ref 4]) (o := 0) (ci := 10) (st := []) rfl okRX10_142 npX10_stampWay ⟨Nat.le_of_ble_eq_true rfl, Nat.le_of_ble_eq_true rfl⟩ k0 (by decide) rfl (Nat.le_of_ble_eq_true rfl) (dk zX10_lets 12 rfl) ?_
      refine hc6t.mono ?_
      rintro _ m7 ⟨rfl, hm7⟩
      show Ex E MX10_lets Q 26 [(0, .ref 0), (1, .int x1), (2, .int x2)] [] m7
      refine x_aload_n 0 rfl rfl (dk zX10_lets 13 rfl) ?_
      refine gf10_8 (r := 78) rfl k0 r0_8 (dk zX10_lets 14 rfl) ?_
      refine x_aload_n 0 rfl rfl (dk zX10_lets 15 rfl) ?_
      refine gf10_2 (r := 4) rfl k0 r0_2 (dk zX10_lets 16 rfl) ?_
      refine x_iload_n 2 rfl rfl (dk zX10_lets 17 rfl) ?_
      refine x_callV (as := [.ref 4, .int x2]) (o := 78) (ci := 4) (st := []) rfl okRX10_256 npX4_letsBy ⟨Nat.le_of_ble_eq_true rfl, Nat.le_of_ble_eq_true rfl⟩ k78 (by decide) rfl (Nat.le_of_ble_eq_true rfl) (dk zX10_lets 18 rfl) ?_
      refine hm7.mono ?_
      rintro _ m8 ⟨r9, rfl, hm8⟩
      show Ex E MX10_lets Q 38 [(0, .ref 0), (1, .int x1), (2, .int x2)] [.int r9] m8
      refine x_if_eq (tgt := 45) (by decide) (dk zX10_lets 19 rfl) (fun c10 => ?_) (fun c10 => ?_)
      · have hc10t := hm8.1 c10
        refine x_iconst (v := 0) (by decide) (dk zX10_lets 22 rfl) ?_
        exact x_iret (ty := .int) rfl rfl (dk zX10_lets 23 rfl) hc10t
      · have hc10f := hm8.2 c10
        refine x_iconst (v := 1) (by decide) (dk zX10_lets 20 rfl) ?_
        refine x_goto (tgt := 46) (by decide) (dk zX10_lets 21 rfl) ?_
        exact x_iret (ty := .int) rfl rfl (dk zX10_lets 23 rfl) hc10f
    · have hc6f := hm4.2 c6
      refine x_bipush (v := -2) (by decide) (dk zX10_lets 6 rfl) ?_
      exact x_iret (ty := .int) rfl rfl (dk zX10_lets 7 rfl) hc6f
set_option maxRecDepth 20000 in
set_option maxHeartbeats 2000000 in
theorem gX10_slips_0 {E : EV} {Q : Po} {μ : Mem} {x1 : Int32} (h : Sp E MX10_arePlaces [.int x1] μ (fun v m1 => ∃ r2 : Int32, v = some (.int r2) ∧ ((r2 = 0 → Q (some (.int ((-2)))) m1) ∧ (¬ r2 = 0 → Sp E MX4_slipping [.ref 78, .int x1] m1 (fun v m4 => ∃ r5 : Int32, v = some (.int r5) ∧ Q (some (.int r5)) m4))))) : Ex E MX10_slips Q 0 [(0, .ref 0), (1, .int x1)] [] μ := by
  refine x_iload_n 1 rfl rfl (dk zX10_slips 0 rfl) ?_
  refine x_callS (as := [.int x1]) (st := []) rfl okRX10_253 npX10_arePlaces ⟨Nat.le_of_ble_eq_true rfl, Nat.le_of_ble_eq_true rfl⟩ (Nat.le_of_ble_eq_true rfl) (dk zX10_slips 1 rfl) ?_
  refine h.mono ?_
  rintro _ m1 ⟨r2, rfl, hm1⟩
  show Ex E MX10_slips Q 4 [(0, .ref 0), (1, .int x1)] [.int r2] m1
  refine x_if_eq (tgt := 18) (by decide) (dk zX10_slips 2 rfl) (fun c3 => ?_) (fun c3 => ?_)
  · have hc3t := hm1.1 c3
    refine x_bipush (v := -2) (by decide) (dk zX10_slips 8 rfl) ?_
    exact x_iret (ty := .int) rfl rfl (dk zX10_slips 9 rfl) hc3t
  · have hc3f := hm1.2 c3
    refine x_aload_n 0 rfl rfl (dk zX10_slips 3 rfl) ?_
    refine gf10_8 (r := 78) rfl k0 r0_8 (dk zX10_slips 4 rfl) ?_
    refine x_iload_n 1 rfl rfl (dk zX10_slips 5 rfl) ?_
    refine x_callV (as := [.int x1]) (o := 78) (ci := 4) (st := []) rfl okRX10_260 npX4_slipping ⟨Nat.le_of_ble_eq_true rfl, Nat.le_of_ble_eq_true rfl⟩ k78 (by decide) rfl (Nat.le_of_ble_eq_true rfl) (dk zX10_slips 6 rfl) ?_
    refine hc3f.mono ?_
    rintro _ m4 ⟨r5, rfl, hm4⟩
    show Ex E MX10_slips Q 15 [(0, .ref 0), (1, .int x1)] [.int r5] m4
    refine x_goto (tgt := 20) (by decide) (dk zX10_slips 7 rfl) ?_
    exact x_iret (ty := .int) rfl rfl (dk zX10_slips 9 rfl) hm4
set_option maxRecDepth 20000 in
set_option maxHeartbeats 2000000 in
theorem gX10_fewest_0 {E : EV} {Q : Po} {μ : Mem}  (h : Sp E MX4_fewestPlaces [.ref 78] μ (fun v m1 => ∃ r2 : Int32, v = some (.int r2) ∧ Q (some (.int r2)) m1)) : Ex E MX10_fewest Q 0 [(0, .ref 0)] [] μ := by
  refine x_aload_n 0 rfl rfl (dk zX10_fewest 0 rfl) ?_
  refine gf10_8 (r := 78) rfl k0 r0_8 (dk zX10_fewest 1 rfl) ?_
  refine x_callV (as := []) (o := 78) (ci := 4) (st := []) rfl okRX10_263 npX4_fewestPlaces ⟨Nat.le_of_ble_eq_true rfl, Nat.le_of_ble_eq_true rfl⟩ k78 (by decide) rfl (Nat.le_of_ble_eq_true rfl) (dk zX10_fewest 2 rfl) ?_
  refine h.mono ?_
  rintro _ m1 ⟨r2, rfl, hm1⟩
  show Ex E MX10_fewest Q 7 [(0, .ref 0)] [.int r2] m1
  exact x_iret (ty := .int) rfl rfl (dk zX10_fewest 3 rfl) hm1
set_option maxRecDepth 20000 in
set_option maxHeartbeats 2000000 in
theorem gX10_far_0 {E : EV} {Q : Po} {μ : Mem} {x1 : Int32} {x2 : Int32} (h : Sp E MX10_isTown [.int x1] μ (fun v m1 => ∃ r2 : Int32, v = some (.int r2) ∧ ((r2 = 0 → Q (some (.int ((-2)))) m1) ∧ (¬ r2 = 0 → Sp E MX10_isTown [.int x2] m1 (fun v m4 => ∃ r5 : Int32, v = some (.int r5) ∧ ((¬ r5 = 0 → Sp E MX3_openGates [.ref 1] m4 (fun v m7 => ∃ r8 : Int32, v = some (.int r8) ∧ Sp E MX0_measureFrom [.ref 83, .ref 1, .int r8, .int x1] m7 (fun v m9 => v = none ∧ Sp E MX0_between [.ref 83, .int x1, .int x2] m9 (fun v m10 => ∃ r11 : Int32, v = some (.int r11) ∧ Q (some (.int r11)) m10)))) ∧ (r5 = 0 → Q (some (.int ((-2)))) m4))))))) : Ex E MX10_far Q 0 [(0, .ref 0), (1, .int x1), (2, .int x2)] [] μ := by
  refine x_iload_n 1 rfl rfl (dk zX10_far 0 rfl) ?_
  refine x_callS (as := [.int x1]) (st := []) rfl okRX10_153 npX10_isTown ⟨Nat.le_of_ble_eq_true rfl, Nat.le_of_ble_eq_true rfl⟩ (Nat.le_of_ble_eq_true rfl) (dk zX10_far 1 rfl) ?_
  refine h.mono ?_
  rintro _ m1 ⟨r2, rfl, hm1⟩
  show Ex E MX10_far Q 4 [(0, .ref 0), (1, .int x1), (2, .int x2)] [.int r2] m1
  refine x_if_eq (tgt := 14) (by decide) (dk zX10_far 2 rfl) (fun c3 => ?_) (fun c3 => ?_)
  · have hc3t := hm1.1 c3
    refine x_bipush (v := -2) (by decide) (dk zX10_far 6 rfl) ?_
    exact x_iret (ty := .int) rfl rfl (dk zX10_far 7 rfl) hc3t
  · have hc3f := hm1.2 c3
    refine x_iload_n 2 rfl rfl (dk zX10_far 3 rfl) ?_
    refine x_callS (as := [.int x2]) (st := []) rfl okRX10_153 npX10_isTown ⟨Nat.le_of_ble_eq_true rfl, Nat.le_of_ble_eq_true rfl⟩ (Nat.le_of_ble_eq_true rfl) (dk zX10_far 4 rfl) ?_
    refine hc3f.mono ?_
    rintro _ m4 ⟨r5, rfl, hm4⟩
    show Ex E MX10_far Q 11 [(0, .ref 0), (1, .int x1), (2, .int x2)] [.int r5] m4
    refine x_if_ne (tgt := 17) (by decide) (dk zX10_far 5 rfl) (fun c6 => ?_) (fun c6 => ?_)
    · have hc6t := hm4.1 c6
      refine x_aload_n 0 rfl rfl (dk zX10_far 8 rfl) ?_
      refine gf10_9 (r := 83) rfl k0 r0_9 (dk zX10_far 9 rfl) ?_
      refine x_aload_n 0 rfl rfl (dk zX10_far 10 rfl) ?_
      refine gf10_0 (r := 1) rfl k0 r0_0 (dk zX10_far 11 rfl) ?_
      refine x_aload_n 0 rfl rfl (dk zX10_far 12 rfl) ?_
      refine gf10_0 (r := 1) rfl k0 r0_0 (dk zX10_far 13 rfl) ?_
      refine x_callV (as := []) (o := 1) (ci := 3) (st := [.ref 1, .ref 83]) rfl okRX10_266 npX3_openGates ⟨Nat.le_of_ble_eq_true rfl, Nat.le_of_ble_eq_true rfl⟩ k1 (by decide) rfl (Nat.le_of_ble_eq_true rfl) (dk zX10_far 14 rfl) ?_
      refine hc6t.mono ?_
      rintro _ m7 ⟨r8, rfl, hm7⟩
      show Ex E MX10_far Q 32 [(0, .ref 0), (1, .int x1), (2, .int x2)] [.int r8, .ref 1, .ref 83] m7
      refine x_iload_n 1 rfl rfl (dk zX10_far 15 rfl) ?_
      refine x_callV (as := [.ref 1, .int r8, .int x1]) (o := 83) (ci := 0) (st := []) rfl okRX10_269 npX0_measureFrom ⟨Nat.le_of_ble_eq_true rfl, Nat.le_of_ble_eq_true rfl⟩ k83 (by decide) rfl (Nat.le_of_ble_eq_true rfl) (dk zX10_far 16 rfl) ?_
      refine hm7.mono ?_
      rintro _ m9 ⟨rfl, hm9⟩
      show Ex E MX10_far Q 36 [(0, .ref 0), (1, .int x1), (2, .int x2)] [] m9
      refine x_aload_n 0 rfl rfl (dk zX10_far 17 rfl) ?_
      refine gf10_9 (r := 83) rfl k0 r0_9 (dk zX10_far 18 rfl) ?_
      refine x_iload_n 1 rfl rfl (dk zX10_far 19 rfl) ?_
      refine x_iload_n 2 rfl rfl (dk zX10_far 20 rfl) ?_
      refine x_callV (as := [.int x1, .int x2]) (o := 83) (ci := 0) (st := []) rfl okRX10_273 npX0_between ⟨Nat.le_of_ble_eq_true rfl, Nat.le_of_ble_eq_true rfl⟩ k83 (by decide) rfl (Nat.le_of_ble_eq_true rfl) (dk zX10_far 21 rfl) ?_
      refine hm9.mono ?_
      rintro _ m10 ⟨r11, rfl, hm10⟩
      show Ex E MX10_far Q 45 [(0, .ref 0), (1, .int x1), (2, .int x2)] [.int r11] m10
      exact x_iret (ty := .int) rfl rfl (dk zX10_far 22 rfl) hm10
    · have hc6f := hm4.2 c6
      refine x_bipush (v := -2) (by decide) (dk zX10_far 6 rfl) ?_
      exact x_iret (ty := .int) rfl rfl (dk zX10_far 7 rfl) hc6f
set_option maxRecDepth 20000 in
set_option maxHeartbeats 2000000 in
theorem gX10_without_0 {E : EV} {Q : Po} {μ : Mem} {x1 : Int32} {x2 : Int32} (h : Sp E MX3_hasGate [.ref 1, .int x1] μ (fun v m1 => ∃ r2 : Int32, v = some (.int r2) ∧ ((r2 = 0 → Q (some (.int ((-2)))) m1) ∧ (¬ r2 = 0 → ((x2 < 0 → Q (some (.int ((-2)))) m1) ∧ (¬ x2 < 0 → ((x2 ≤ 1 → Sp E MX3_openGates [.ref 1] m1 (fun v m6 => ∃ r7 : Int32, v = some (.int r7) ∧ ∀ v8 : Int32, v8 = r7 &&& ((1 <<< ((x1 : Int32) &&& 31)) ^^^ ((-1))) → ((¬ v8 = r7 → Sp E MX0_measure [.ref 83, .ref 1, .int r7] m6 (fun v m10 => v = none ∧ Sp E MX0_measure [.ref 95, .ref 1, .int v8] m10 (fun v m11 => v = none ∧ ((¬ x2 = 0 → Sp E MX0_mostUnlike [.ref 83, .ref 95] m11 (fun v m13 => ∃ r14 : Int32, v = some (.int r14) ∧ Q (some (.int r14)) m13)) ∧ (x2 = 0 → Sp E MX0_pairsUnlike [.ref 83, .ref 95] m11 (fun v m15 => ∃ r16 : Int32, v = some (.int r16) ∧ Q (some (.int r16)) m15)))))) ∧ (v8 = r7 → Q (some (.int 0)) m6)))) ∧ (¬ x2 ≤ 1 → Q (some (.int ((-2)))) m1)))))))) : Ex E MX10_without Q 0 [(0, .ref 0), (1, .int x1), (2, .int x2)] [] μ := by
  refine x_aload_n 0 rfl rfl (dk zX10_without 0 rfl) ?_
  refine gf10_0 (r := 1) rfl k0 r0_0 (dk zX10_without 1 rfl) ?_
  refine x_iload_n 1 rfl rfl (dk zX10_without 2 rfl) ?_
  refine x_callV (as := [.int x1]) (o := 1) (ci := 3) (st := []) rfl okRX10_117 npX3_hasGate ⟨Nat.le_of_ble_eq_true rfl, Nat.le_of_ble_eq_true rfl⟩ k1 (by decide) rfl (Nat.le_of_ble_eq_true rfl) (dk zX10_without 3 rfl) ?_
  refine h.mono ?_
  rintro _ m1 ⟨r2, rfl, hm1⟩
  show Ex E MX10_without Q 8 [(0, .ref 0), (1, .int x1), (2, .int x2)] [.int r2] m1
  refine x_if_eq (tgt := 20) (by decide) (dk zX10_without 4 rfl) (fun c3 => ?_) (fun c3 => ?_)
  · have hc3t := hm1.1 c3
    refine x_bipush (v := -2) (by decide) (dk zX10_without 10 rfl) ?_
    exact x_iret (ty := .int) rfl rfl (dk zX10_without 11 rfl) hc3t
  · have hc3f := hm1.2 c3
    refine x_iload_n 2 rfl rfl (dk zX10_without 5 rfl) ?_
    refine x_if_lt (tgt := 20) (by decide) (dk zX10_without 6 rfl) (fun c4 => ?_) (fun c4 => ?_)
    · have hc4t := hc3f.1 c4
      refine x_bipush (v := -2) (by decide) (dk zX10_without 10 rfl) ?_
      exact x_iret (ty := .int) rfl rfl (dk zX10_without 11 rfl) hc4t
    · have hc4f := hc3f.2 c4
      refine x_iload_n 2 rfl rfl (dk zX10_without 7 rfl) ?_
      refine x_iconst (v := 1) (by decide) (dk zX10_without 8 rfl) ?_
      refine x_icmp_le (tgt := 23) (by decide) (dk zX10_without 9 rfl) (fun c5 => ?_) (fun c5 => ?_)
      · have hc5t := hc4f.1 c5
        refine x_aload_n 0 rfl rfl (dk zX10_without 12 rfl) ?_
        refine gf10_0 (r := 1) rfl k0 r0_0 (dk zX10_without 13 rfl) ?_
        refine x_callV (as := []) (o := 1) (ci := 3) (st := []) rfl okRX10_266 npX3_openGates ⟨Nat.le_of_ble_eq_true rfl, Nat.le_of_ble_eq_true rfl⟩ k1 (by decide) rfl (Nat.le_of_ble_eq_true rfl) (dk zX10_without 14 rfl) ?_
        refine hc5t.mono ?_
        rintro _ m6 ⟨r7, rfl, hm6⟩
        show Ex E MX10_without Q 30 [(0, .ref 0), (1, .int x1), (2, .int x2)] [.int r7] m6
        refine x_istore_n (k := 3) (l' := [(0, .ref 0), (1, .int x1), (2, .int x2), (3, .int r7)]) [1, 2, 3, 0] rfl rfl (by decide) (dk zX10_without 15 rfl) ?_
        refine x_iload_n 3 rfl rfl (dk zX10_without 16 rfl) ?_
        refine x_iconst (v := 1) (by decide) (dk zX10_without 17 rfl) ?_
        refine x_iload_n 1 rfl rfl (dk zX10_without 18 rfl) ?_
        refine x_ishl (dk zX10_without 19 rfl) ?_
        refine x_iconst (v := -1) (by decide) (dk zX10_without 20 rfl) ?_
        refine x_ixor (dk zX10_without 21 rfl) ?_
        refine x_iand (dk zX10_without 22 rfl) ?_
        refine x_topi (fun v8 ev8 => ?_)
        have hv8 := hm6 v8 ev8
        refine x_istoreG (l' := [(0, .ref 0), (1, .int x1), (2, .int x2), (3, .int r7), (4, .int v8)]) [1, 2, 3, 4, 0] rfl (by decide) (dk zX10_without 23 rfl) ?_
        refine x_iload 4 rfl (dk zX10_without 24 rfl) ?_
        refine x_iload_n 3 rfl rfl (dk zX10_without 25 rfl) ?_
        refine x_icmp_ne (tgt := 48) (by decide) (dk zX10_without 26 rfl) (fun c9 => ?_) (fun c9 => ?_)
        · have hc9t := hv8.1 c9
          refine x_aload_n 0 rfl rfl (dk zX10_without 29 rfl) ?_
          refine gf10_9 (r := 83) rfl k0 r0_9 (dk zX10_without 30 rfl) ?_
          refine x_aload_n 0 rfl rfl (dk zX10_without 31 rfl) ?_
          refine gf10_0 (r := 1) rfl k0 r0_0 (dk zX10_without 32 rfl) ?_
          refine x_iload_n 3 rfl rfl (dk zX10_without 33 rfl) ?_
          refine x_callV (as := [.ref 1, .int r7]) (o := 83) (ci := 0) (st := []) rfl okRX10_276 npX0_measure ⟨Nat.le_of_ble_eq_true rfl, Nat.le_of_ble_eq_true rfl⟩ k83 (by decide) rfl (Nat.le_of_ble_eq_true rfl) (dk zX10_without 34 rfl) ?_
          refine hc9t.mono ?_
          rintro _ m10 ⟨rfl, hm10⟩
          show Ex E MX10_without Q 60 [(0, .ref 0), (1, .int x1), (2, .int x2), (3, .int r7), (4, .int v8)] [] m10
          refine x_aload_n 0 rfl rfl (dk zX10_without 35 rfl) ?_
          refine gf10_10 (r := 95) rfl k0 r0_10 (dk zX10_without 36 rfl) ?_
          refine x_aload_n 0 rfl rfl (dk zX10_without 37 rfl) ?_
          refine gf10_0 (r := 1) rfl k0 r0_0 (dk zX10_without 38 rfl) ?_
          refine x_iload 4 rfl (dk zX10_without 39 rfl) ?_
          refine x_callV (as := [.ref 1, .int v8]) (o := 95) (ci := 0) (st := []) rfl okRX10_276 npX0_measure ⟨Nat.le_of_ble_eq_true rfl, Nat.le_of_ble_eq_true rfl⟩ k95 (by decide) rfl (Nat.le_of_ble_eq_true rfl) (dk zX10_without 40 rfl) ?_
          refine hm10.mono ?_
          rintro _ m11 ⟨rfl, hm11⟩
          show Ex E MX10_without Q 73 [(0, .ref 0), (1, .int x1), (2, .int x2), (3, .int r7), (4, .int v8)] [] m11
          refine x_iload_n 2 rfl rfl (dk zX10_without 41 rfl) ?_
          refine x_if_ne (tgt := 91) (by decide) (dk zX10_without 42 rfl) (fun c12 => ?_) (fun c12 => ?_)
          · have hc12t := hm11.1 c12
            refine x_aload_n 0 rfl rfl (dk zX10_without 49 rfl) ?_
            refine gf10_9 (r := 83) rfl k0 r0_9 (dk zX10_without 50 rfl) ?_
            refine x_aload_n 0 rfl rfl (dk zX10_without 51 rfl) ?_
            refine gf10_10 (r := 95) rfl k0 r0_10 (dk zX10_without 52 rfl) ?_
            refine x_callV (as := [.ref 95]) (o := 83) (ci := 0) (st := []) rfl okRX10_284 npX0_mostUnlike ⟨Nat.le_of_ble_eq_true rfl, Nat.le_of_ble_eq_true rfl⟩ k83 (by decide) rfl (Nat.le_of_ble_eq_true rfl) (dk zX10_without 53 rfl) ?_
            refine hc12t.mono ?_
            rintro _ m13 ⟨r14, rfl, hm13⟩
            show Ex E MX10_without Q 102 [(0, .ref 0), (1, .int x1), (2, .int x2), (3, .int r7), (4, .int v8)] [.int r14] m13
            exact x_iret (ty := .int) rfl rfl (dk zX10_without 54 rfl) hm13
          · have hc12f := hm11.2 c12
            refine x_aload_n 0 rfl rfl (dk zX10_without 43 rfl) ?_
            refine gf10_9 (r := 83) rfl k0 r0_9 (dk zX10_without 44 rfl) ?_
            refine x_aload_n 0 rfl rfl (dk zX10_without 45 rfl) ?_
            refine gf10_10 (r := 95) rfl k0 r0_10 (dk zX10_without 46 rfl) ?_
            refine x_callV (as := [.ref 95]) (o := 83) (ci := 0) (st := []) rfl okRX10_280 npX0_pairsUnlike ⟨Nat.le_of_ble_eq_true rfl, Nat.le_of_ble_eq_true rfl⟩ k83 (by decide) rfl (Nat.le_of_ble_eq_true rfl) (dk zX10_without 47 rfl) ?_
            refine hc12f.mono ?_
            rintro _ m15 ⟨r16, rfl, hm15⟩
            show Ex E MX10_without Q 88 [(0, .ref 0), (1, .int x1), (2, .int x2), (3, .int r7), (4, .int v8)] [.int r16] m15
            refine x_goto (tgt := 102) (by decide) (dk zX10_without 48 rfl) ?_
            exact x_iret (ty := .int) rfl rfl (dk zX10_without 54 rfl) hm15
        · have hc9f := hv8.2 c9
          refine x_iconst (v := 0) (by decide) (dk zX10_without 27 rfl) ?_
          exact x_iret (ty := .int) rfl rfl (dk zX10_without 28 rfl) hc9f
      · have hc5f := hc4f.2 c5
        refine x_bipush (v := -2) (by decide) (dk zX10_without 10 rfl) ?_
        exact x_iret (ty := .int) rfl rfl (dk zX10_without 11 rfl) hc5f
set_option maxRecDepth 20000 in
set_option maxHeartbeats 2000000 in
theorem gX10_with_0 {E : EV} {Q : Po} {μ : Mem} {x1 : Int32} {x2 : Int32} {x3 : Int32} (h : Sp E MX10_isTown [.int x1] μ (fun v m1 => ∃ r2 : Int32, v = some (.int r2) ∧ ((r2 = 0 → Q (some (.int ((-2)))) m1) ∧ (¬ r2 = 0 → Sp E MX10_isTown [.int x2] m1 (fun v m4 => ∃ r5 : Int32, v = some (.int r5) ∧ ((r5 = 0 → Q (some (.int ((-2)))) m4) ∧ (¬ r5 = 0 → ((x3 < 0 → Q (some (.int ((-2)))) m4) ∧ (¬ x3 < 0 → ((x3 ≤ 1 → Sp E MX3_openGates [.ref 1] m4 (fun v m9 => ∃ r10 : Int32, v = some (.int r10) ∧ Sp E MX0_measure [.ref 83, .ref 1, .int r10] m9 (fun v m11 => v = none ∧ Sp E MX3_openGates [.ref 1] m11 (fun v m12 => ∃ r13 : Int32, v = some (.int r13) ∧ Sp E MX0_measureLinked [.ref 95, .ref 1, .int r13, .int x1, .int x2] m12 (fun v m14 => v = none ∧ ((¬ x3 = 0 → Sp E MX0_mostUnlike [.ref 83, .ref 95] m14 (fun v m16 => ∃ r17 : Int32, v = some (.int r17) ∧ Q (some (.int r17)) m16)) ∧ (x3 = 0 → Sp E MX0_pairsUnlike [.ref 83, .ref 95] m14 (fun v m18 => ∃ r19 : Int32, v = some (.int r19) ∧ Q (some (.int r19)) m18)))))))) ∧ (¬ x3 ≤ 1 → Q (some (.int ((-2)))) m4))))))))))) : Ex E MX10_with Q 0 [(0, .ref 0), (1, .int x1), (2, .int x2), (3, .int x3)] [] μ := by
  refine x_iload_n 1 rfl rfl (dk zX10_with 0 rfl) ?_
  refine x_callS (as := [.int x1]) (st := []) rfl okRX10_153 npX10_isTown ⟨Nat.le_of_ble_eq_true rfl, Nat.le_of_ble_eq_true rfl⟩ (Nat.le_of_ble_eq_true rfl) (dk zX10_with 1 rfl) ?_
  refine h.mono ?_
  rintro _ m1 ⟨r2, rfl, hm1⟩
  show Ex E MX10_with Q 4 [(0, .ref 0), (1, .int x1), (2, .int x2), (3, .int x3)] [.int r2] m1
  refine x_if_eq (tgt := 23) (by decide) (dk zX10_with 2 rfl) (fun c3 => ?_) (fun c3 => ?_)
  · have hc3t := hm1.1 c3
    refine x_bipush (v := -2) (by decide) (dk zX10_with 11 rfl) ?_
    exact x_iret (ty := .int) rfl rfl (dk zX10_with 12 rfl) hc3t
  · have hc3f := hm1.2 c3
    refine x_iload_n 2 rfl rfl (dk zX10_with 3 rfl) ?_
    refine x_callS (as := [.int x2]) (st := []) rfl okRX10_153 npX10_isTown ⟨Nat.le_of_ble_eq_true rfl, Nat.le_of_ble_eq_true rfl⟩ (Nat.le_of_ble_eq_true rfl) (dk zX10_with 4 rfl) ?_
    refine hc3f.mono ?_
    rintro _ m4 ⟨r5, rfl, hm4⟩
    show Ex E MX10_with Q 11 [(0, .ref 0), (1, .int x1), (2, .int x2), (3, .int x3)] [.int r5] m4
    refine x_if_eq (tgt := 23) (by decide) (dk zX10_with 5 rfl) (fun c6 => ?_) (fun c6 => ?_)
    · have hc6t := hm4.1 c6
      refine x_bipush (v := -2) (by decide) (dk zX10_with 11 rfl) ?_
      exact x_iret (ty := .int) rfl rfl (dk zX10_with 12 rfl) hc6t
    · have hc6f := hm4.2 c6
      refine x_iload_n 3 rfl rfl (dk zX10_with 6 rfl) ?_
      refine x_if_lt (tgt := 23) (by decide) (dk zX10_with 7 rfl) (fun c7 => ?_) (fun c7 => ?_)
      · have hc7t := hc6f.1 c7
        refine x_bipush (v := -2) (by decide) (dk zX10_with 11 rfl) ?_
        exact x_iret (ty := .int) rfl rfl (dk zX10_with 12 rfl) hc7t
      · have hc7f := hc6f.2 c7
        refine x_iload_n 3 rfl rfl (dk zX10_with 8 rfl) ?_
        refine x_iconst (v := 1) (by decide) (dk zX10_with 9 rfl) ?_
        refine x_icmp_le (tgt := 26) (by decide) (dk zX10_with 10 rfl) (fun c8 => ?_) (fun c8 => ?_)
        · have hc8t := hc7f.1 c8
          refine x_aload_n 0 rfl rfl (dk zX10_with 13 rfl) ?_
          refine gf10_9 (r := 83) rfl k0 r0_9 (dk zX10_with 14 rfl) ?_
          refine x_aload_n 0 rfl rfl (dk zX10_with 15 rfl) ?_
          refine gf10_0 (r := 1) rfl k0 r0_0 (dk zX10_with 16 rfl) ?_
          refine x_aload_n 0 rfl rfl (dk zX10_with 17 rfl) ?_
          refine gf10_0 (r := 1) rfl k0 r0_0 (dk zX10_with 18 rfl) ?_
          refine x_callV (as := []) (o := 1) (ci := 3) (st := [.ref 1, .ref 83]) rfl okRX10_266 npX3_openGates ⟨Nat.le_of_ble_eq_true rfl, Nat.le_of_ble_eq_true rfl⟩ k1 (by decide) rfl (Nat.le_of_ble_eq_true rfl) (dk zX10_with 19 rfl) ?_
          refine hc8t.mono ?_
          rintro _ m9 ⟨r10, rfl, hm9⟩
          show Ex E MX10_with Q 41 [(0, .ref 0), (1, .int x1), (2, .int x2), (3, .int x3)] [.int r10, .ref 1, .ref 83] m9
          refine x_callV (as := [.ref 1, .int r10]) (o := 83) (ci := 0) (st := []) rfl okRX10_276 npX0_measure ⟨Nat.le_of_ble_eq_true rfl, Nat.le_of_ble_eq_true rfl⟩ k83 (by decide) rfl (Nat.le_of_ble_eq_true rfl) (dk zX10_with 20 rfl) ?_
          refine hm9.mono ?_
          rintro _ m11 ⟨rfl, hm11⟩
          show Ex E MX10_with Q 44 [(0, .ref 0), (1, .int x1), (2, .int x2), (3, .int x3)] [] m11
          refine x_aload_n 0 rfl rfl (dk zX10_with 21 rfl) ?_
          refine gf10_10 (r := 95) rfl k0 r0_10 (dk zX10_with 22 rfl) ?_
          refine x_aload_n 0 rfl rfl (dk zX10_with 23 rfl) ?_
          refine gf10_0 (r := 1) rfl k0 r0_0 (dk zX10_with 24 rfl) ?_
          refine x_aload_n 0 rfl rfl (dk zX10_with 25 rfl) ?_
          refine gf10_0 (r := 1) rfl k0 r0_0 (dk zX10_with 26 rfl) ?_
          refine x_callV (as := []) (o := 1) (ci := 3) (st := [.ref 1, .ref 95]) rfl okRX10_266 npX3_openGates ⟨Nat.le_of_ble_eq_true rfl, Nat.le_of_ble_eq_true rfl⟩ k1 (by decide) rfl (Nat.le_of_ble_eq_true rfl) (dk zX10_with 27 rfl) ?_
          refine hm11.mono ?_
          rintro _ m12 ⟨r13, rfl, hm12⟩
          show Ex E MX10_with Q 59 [(0, .ref 0), (1, .int x1), (2, .int x2), (3, .int x3)] [.int r13, .ref 1, .ref 95] m12
          refine x_iload_n 1 rfl rfl (dk zX10_with 28 rfl) ?_
          refine x_iload_n 2 rfl rfl (dk zX10_with 29 rfl) ?_
          refine x_callV (as := [.ref 1, .int r13, .int x1, .int x2]) (o := 95) (ci := 0) (st := []) rfl okRX10_287 npX0_measureLinked ⟨Nat.le_of_ble_eq_true rfl, Nat.le_of_ble_eq_true rfl⟩ k95 (by decide) rfl (Nat.le_of_ble_eq_true rfl) (dk zX10_with 30 rfl) ?_
          refine hm12.mono ?_
          rintro _ m14 ⟨rfl, hm14⟩
          show Ex E MX10_with Q 64 [(0, .ref 0), (1, .int x1), (2, .int x2), (3, .int x3)] [] m14
          refine x_iload_n 3 rfl rfl (dk zX10_with 31 rfl) ?_
          refine x_if_ne (tgt := 82) (by decide) (dk zX10_with 32 rfl) (fun c15 => ?_) (fun c15 => ?_)
          · have hc15t := hm14.1 c15
            refine x_aload_n 0 rfl rfl (dk zX10_with 39 rfl) ?_
            refine gf10_9 (r := 83) rfl k0 r0_9 (dk zX10_with 40 rfl) ?_
            refine x_aload_n 0 rfl rfl (dk zX10_with 41 rfl) ?_
            refine gf10_10 (r := 95) rfl k0 r0_10 (dk zX10_with 42 rfl) ?_
            refine x_callV (as := [.ref 95]) (o := 83) (ci := 0) (st := []) rfl okRX10_284 npX0_mostUnlike ⟨Nat.le_of_ble_eq_true rfl, Nat.le_of_ble_eq_true rfl⟩ k83 (by decide) rfl (Nat.le_of_ble_eq_true rfl) (dk zX10_with 43 rfl) ?_
            refine hc15t.mono ?_
            rintro _ m16 ⟨r17, rfl, hm16⟩
            show Ex E MX10_with Q 93 [(0, .ref 0), (1, .int x1), (2, .int x2), (3, .int x3)] [.int r17] m16
            exact x_iret (ty := .int) rfl rfl (dk zX10_with 44 rfl) hm16
          · have hc15f := hm14.2 c15
            refine x_aload_n 0 rfl rfl (dk zX10_with 33 rfl) ?_
            refine gf10_9 (r := 83) rfl k0 r0_9 (dk zX10_with 34 rfl) ?_
            refine x_aload_n 0 rfl rfl (dk zX10_with 35 rfl) ?_
            refine gf10_10 (r := 95) rfl k0 r0_10 (dk zX10_with 36 rfl) ?_
            refine x_callV (as := [.ref 95]) (o := 83) (ci := 0) (st := []) rfl okRX10_280 npX0_pairsUnlike ⟨Nat.le_of_ble_eq_true rfl, Nat.le_of_ble_eq_true rfl⟩ k83 (by decide) rfl (Nat.le_of_ble_eq_true rfl) (dk zX10_with 37 rfl) ?_
            refine hc15f.mono ?_
            rintro _ m18 ⟨r19, rfl, hm18⟩
            show Ex E MX10_with Q 79 [(0, .ref 0), (1, .int x1), (2, .int x2), (3, .int x3)] [.int r19] m18
            refine x_goto (tgt := 93) (by decide) (dk zX10_with 38 rfl) ?_
            exact x_iret (ty := .int) rfl rfl (dk zX10_with 44 rfl) hm18
        · have hc8f := hc7f.2 c8
          refine x_bipush (v := -2) (by decide) (dk zX10_with 11 rfl) ?_
          exact x_iret (ty := .int) rfl rfl (dk zX10_with 12 rfl) hc8f
set_option maxRecDepth 20000 in
set_option maxHeartbeats 2000000 in
theorem gX10_isForm_0 {E : EV} {Q : Po} {μ : Mem} {x0 : Int32} (h : ((x0 < 0 → Q (some (.int 0)) μ) ∧ (¬ x0 < 0 → ((3 ≤ x0 → Q (some (.int 0)) μ) ∧ (¬ 3 ≤ x0 → Q (some (.int 1)) μ))))) : Ex E MX10_isForm Q 0 [(0, .int x0)] [] μ := by
  refine x_iload_n 0 rfl rfl (dk zX10_isForm 0 rfl) ?_
  refine x_if_lt (tgt := 13) (by decide) (dk zX10_isForm 1 rfl) (fun c1 => ?_) (fun c1 => ?_)
  · have hc1t := h.1 c1
    refine x_iconst (v := 0) (by decide) (dk zX10_isForm 7 rfl) ?_
    exact x_iret rfl rfl (dk zX10_isForm 8 rfl) hc1t
  · have hc1f := h.2 c1
    refine x_iload_n 0 rfl rfl (dk zX10_isForm 2 rfl) ?_
    refine x_iconst (v := 3) (by decide) (dk zX10_isForm 3 rfl) ?_
    refine x_icmp_ge (tgt := 13) (by decide) (dk zX10_isForm 4 rfl) (fun c2 => ?_) (fun c2 => ?_)
    · have hc2t := hc1f.1 c2
      refine x_iconst (v := 0) (by decide) (dk zX10_isForm 7 rfl) ?_
      exact x_iret rfl rfl (dk zX10_isForm 8 rfl) hc2t
    · have hc2f := hc1f.2 c2
      refine x_iconst (v := 1) (by decide) (dk zX10_isForm 5 rfl) ?_
      refine x_goto (tgt := 14) (by decide) (dk zX10_isForm 6 rfl) ?_
      exact x_iret rfl rfl (dk zX10_isForm 8 rfl) hc2f
set_option maxRecDepth 20000 in
set_option maxHeartbeats 2000000 in
theorem gX10_sheet_0 {E : EV} {Q : Po} {μ : Mem} {x1 : Int32} {x2 : Int32} {x3 : Int32} (h : Sp E MX10_isSheet [.int x1] μ (fun v m1 => ∃ r2 : Int32, v = some (.int r2) ∧ ((r2 = 0 → Q (some (.int ((-2)))) m1) ∧ (¬ r2 = 0 → Sp E MX10_isForm [.int x2] m1 (fun v m4 => ∃ r5 : Int32, v = some (.int r5) ∧ ((r5 = 0 → Q (some (.int ((-2)))) m4) ∧ (¬ r5 = 0 → ((x3 ≤ 60 → ((0 ≤ x3 → Sp E MX7_make [.ref 107, .int x1, .int x2, .int x3] m4 (fun v m9 => v = none ∧ Q (some (.int x3)) m9)) ∧ (¬ 0 ≤ x3 → Sp E MX7_find [.ref 107, .int 5] m4 (fun v m10 => ∃ r11 : Int32, v = some (.int r11) ∧ Q (some (.int r11)) m10)))) ∧ (¬ x3 ≤ 60 → Q (some (.int ((-2)))) m4))))))))) : Ex E MX10_sheet Q 0 [(0, .ref 0), (1, .int x1), (2, .int x2), (3, .int x3)] [] μ := by
  refine x_iload_n 1 rfl rfl (dk zX10_sheet 0 rfl) ?_
  refine x_callS (as := [.int x1]) (st := []) rfl okRX10_220 npX10_isSheet ⟨Nat.le_of_ble_eq_true rfl, Nat.le_of_ble_eq_true rfl⟩ (Nat.le_of_ble_eq_true rfl) (dk zX10_sheet 1 rfl) ?_
  refine h.mono ?_
  rintro _ m1 ⟨r2, rfl, hm1⟩
  show Ex E MX10_sheet Q 4 [(0, .ref 0), (1, .int x1), (2, .int x2), (3, .int x3)] [.int r2] m1
  refine x_if_eq (tgt := 20) (by decide) (dk zX10_sheet 2 rfl) (fun c3 => ?_) (fun c3 => ?_)
  · have hc3t := hm1.1 c3
    refine x_bipush (v := -2) (by decide) (dk zX10_sheet 9 rfl) ?_
    exact x_iret (ty := .int) rfl rfl (dk zX10_sheet 10 rfl) hc3t
  · have hc3f := hm1.2 c3
    refine x_iload_n 2 rfl rfl (dk zX10_sheet 3 rfl) ?_
    refine x_callS (as := [.int x2]) (st := []) rfl okRX10_291 npX10_isForm ⟨Nat.le_of_ble_eq_true rfl, Nat.le_of_ble_eq_true rfl⟩ (Nat.le_of_ble_eq_true rfl) (dk zX10_sheet 4 rfl) ?_
    refine hc3f.mono ?_
    rintro _ m4 ⟨r5, rfl, hm4⟩
    show Ex E MX10_sheet Q 11 [(0, .ref 0), (1, .int x1), (2, .int x2), (3, .int x3)] [.int r5] m4
    refine x_if_eq (tgt := 20) (by decide) (dk zX10_sheet 5 rfl) (fun c6 => ?_) (fun c6 => ?_)
    · have hc6t := hm4.1 c6
      refine x_bipush (v := -2) (by decide) (dk zX10_sheet 9 rfl) ?_
      exact x_iret (ty := .int) rfl rfl (dk zX10_sheet 10 rfl) hc6t
    · have hc6f := hm4.2 c6
      refine x_iload_n 3 rfl rfl (dk zX10_sheet 6 rfl) ?_
      refine x_bipush (v := 60) (by decide) (dk zX10_sheet 7 rfl) ?_
      refine x_icmp_le (tgt := 23) (by decide) (dk zX10_sheet 8 rfl) (fun c7 => ?_) (fun c7 => ?_)
      · have hc7t := hc6f.1 c7
        refine x_iload_n 3 rfl rfl (dk zX10_sheet 11 rfl) ?_
        refine x_if_ge (tgt := 36) (by decide) (dk zX10_sheet 12 rfl) (fun c8 => ?_) (fun c8 => ?_)
        · have hc8t := hc7t.1 c8
          refine x_aload_n 0 rfl rfl (dk zX10_sheet 18 rfl) ?_
          refine gf10_11 (r := 107) rfl k0 r0_11 (dk zX10_sheet 19 rfl) ?_
          refine x_iload_n 1 rfl rfl (dk zX10_sheet 20 rfl) ?_
          refine x_iload_n 2 rfl rfl (dk zX10_sheet 21 rfl) ?_
          refine x_iload_n 3 rfl rfl (dk zX10_sheet 22 rfl) ?_
          refine x_callV (as := [.int x1, .int x2, .int x3]) (o := 107) (ci := 7) (st := []) rfl okRX10_294 npX7_make ⟨Nat.le_of_ble_eq_true rfl, Nat.le_of_ble_eq_true rfl⟩ k107 (by decide) rfl (Nat.le_of_ble_eq_true rfl) (dk zX10_sheet 23 rfl) ?_
          refine hc8t.mono ?_
          rintro _ m9 ⟨rfl, hm9⟩
          show Ex E MX10_sheet Q 46 [(0, .ref 0), (1, .int x1), (2, .int x2), (3, .int x3)] [] m9
          refine x_iload_n 3 rfl rfl (dk zX10_sheet 24 rfl) ?_
          exact x_iret (ty := .int) rfl rfl (dk zX10_sheet 25 rfl) hm9
        · have hc8f := hc7t.2 c8
          refine x_aload_n 0 rfl rfl (dk zX10_sheet 13 rfl) ?_
          refine gf10_11 (r := 107) rfl k0 r0_11 (dk zX10_sheet 14 rfl) ?_
          refine x_iconst (v := 5) (by decide) (dk zX10_sheet 15 rfl) ?_
          refine x_callV (as := [.int 5]) (o := 107) (ci := 7) (st := []) rfl okRX10_226 npX7_find ⟨Nat.le_of_ble_eq_true rfl, Nat.le_of_ble_eq_true rfl⟩ k107 (by decide) rfl (Nat.le_of_ble_eq_true rfl) (dk zX10_sheet 16 rfl) ?_
          refine hc8f.mono ?_
          rintro _ m10 ⟨r11, rfl, hm10⟩
          show Ex E MX10_sheet Q 35 [(0, .ref 0), (1, .int x1), (2, .int x2), (3, .int x3)] [.int r11] m10
          exact x_iret (ty := .int) rfl rfl (dk zX10_sheet 17 rfl) hm10
      · have hc7f := hc6f.2 c7
        refine x_bipush (v := -2) (by decide) (dk zX10_sheet 9 rfl) ?_
        exact x_iret (ty := .int) rfl rfl (dk zX10_sheet 10 rfl) hc7f
set_option maxRecDepth 20000 in
set_option maxHeartbeats 2000000 in
theorem gX10_lose_0 {E : EV} {Q : Po} {μ : Mem} {x1 : Int32} (h : Sp E MX10_isSheet [.int x1] μ (fun v m1 => ∃ r2 : Int32, v = some (.int r2) ∧ ((¬ r2 = 0 → Sp E MX7_isLost [.ref 107, .int x1] m1 (fun v m4 => ∃ r5 : Int32, v = some (.int r5) ∧ ((r5 = 0 → Sp E MX7_size [.ref 107, .int x1] m4 (fun v m7 => ∃ r8 : Int32, v = some (.int r8) ∧ Sp E MX7_drop [.ref 107, .int x1] m7 (fun v m9 => v = none ∧ Q (some (.int r8)) m9))) ∧ (¬ r5 = 0 → Sp E MX7_find [.ref 107, .int 1] m4 (fun v m10 => ∃ r11 : Int32, v = some (.int r11) ∧ Q (some (.int r11)) m10))))) ∧ (r2 = 0 → Q (some (.int ((-2)))) m1)))) : Ex E MX10_lose Q 0 [(0, .ref 0), (1, .int x1)] [] μ := by
  refine x_iload_n 1 rfl rfl (dk zX10_lose 0 rfl) ?_
  refine x_callS (as := [.int x1]) (st := []) rfl okRX10_220 npX10_isSheet ⟨Nat.le_of_ble_eq_true rfl, Nat.le_of_ble_eq_true rfl⟩ (Nat.le_of_ble_eq_true rfl) (dk zX10_lose 1 rfl) ?_
  refine h.mono ?_
  rintro _ m1 ⟨r2, rfl, hm1⟩
  show Ex E MX10_lose Q 4 [(0, .ref 0), (1, .int x1)] [.int r2] m1
  refine x_if_ne (tgt := 10) (by decide) (dk zX10_lose 2 rfl) (fun c3 => ?_) (fun c3 => ?_)
  · have hc3t := hm1.1 c3
    refine x_aload_n 0 rfl rfl (dk zX10_lose 5 rfl) ?_
    refine gf10_11 (r := 107) rfl k0 r0_11 (dk zX10_lose 6 rfl) ?_
    refine x_iload_n 1 rfl rfl (dk zX10_lose 7 rfl) ?_
    refine x_callV (as := [.int x1]) (o := 107) (ci := 7) (st := []) rfl okRX10_223 npX7_isLost ⟨Nat.le_of_ble_eq_true rfl, Nat.le_of_ble_eq_true rfl⟩ k107 (by decide) rfl (Nat.le_of_ble_eq_true rfl) (dk zX10_lose 8 rfl) ?_
    refine hc3t.mono ?_
    rintro _ m4 ⟨r5, rfl, hm4⟩
    show Ex E MX10_lose Q 18 [(0, .ref 0), (1, .int x1)] [.int r5] m4
    refine x_if_eq (tgt := 30) (by decide) (dk zX10_lose 9 rfl) (fun c6 => ?_) (fun c6 => ?_)
    · have hc6t := hm4.1 c6
      refine x_aload_n 0 rfl rfl (dk zX10_lose 15 rfl) ?_
      refine gf10_11 (r := 107) rfl k0 r0_11 (dk zX10_lose 16 rfl) ?_
      refine x_iload_n 1 rfl rfl (dk zX10_lose 17 rfl) ?_
      refine x_callV (as := [.int x1]) (o := 107) (ci := 7) (st := []) rfl okRX10_229 npX7_size ⟨Nat.le_of_ble_eq_true rfl, Nat.le_of_ble_eq_true rfl⟩ k107 (by decide) rfl (Nat.le_of_ble_eq_true rfl) (dk zX10_lose 18 rfl) ?_
      refine hc6t.mono ?_
      rintro _ m7 ⟨r8, rfl, hm7⟩
      show Ex E MX10_lose Q 38 [(0, .ref 0), (1, .int x1)] [.int r8] m7
      refine x_istore_n (k := 2) (l' := [(0, .ref 0), (1, .int x1), (2, .int r8)]) [1, 2, 0] rfl rfl (by decide) (dk zX10_lose 19 rfl) ?_
      refine x_aload_n 0 rfl rfl (dk zX10_lose 20 rfl) ?_
      refine gf10_11 (r := 107) rfl k0 r0_11 (dk zX10_lose 21 rfl) ?_
      refine x_iload_n 1 rfl rfl (dk zX10_lose 22 rfl) ?_
      refine x_callV (as := [.int x1]) (o := 107) (ci := 7) (st := []) rfl okRX10_297 npX7_drop ⟨Nat.le_of_ble_eq_true rfl, Nat.le_of_ble_eq_true rfl⟩ k107 (by decide) rfl (Nat.le_of_ble_eq_true rfl) (dk zX10_lose 23 rfl) ?_
      refine hm7.mono ?_
      rintro _ m9 ⟨rfl, hm9⟩
      show Ex E MX10_lose Q 47 [(0, .ref 0), (1, .int x1), (2, .int r8)] [] m9
      refine x_iload_n 2 rfl rfl (dk zX10_lose 24 rfl) ?_
      exact x_iret (ty := .int) rfl rfl (dk zX10_lose 25 rfl) hm9
    · have hc6f := hm4.2 c6
      refine x_aload_n 0 rfl rfl (dk zX10_lose 10 rfl) ?_
      refine gf10_11 (r := 107) rfl k0 r0_11 (dk zX10_lose 11 rfl) ?_
      refine x_iconst (v := 1) (by decide) (dk zX10_lose 12 rfl) ?_
      refine x_callV (as := [.int 1]) (o := 107) (ci := 7) (st := []) rfl okRX10_226 npX7_find ⟨Nat.le_of_ble_eq_true rfl, Nat.le_of_ble_eq_true rfl⟩ k107 (by decide) rfl (Nat.le_of_ble_eq_true rfl) (dk zX10_lose 13 rfl) ?_
      refine hc6f.mono ?_
      rintro _ m10 ⟨r11, rfl, hm10⟩
      show Ex E MX10_lose Q 29 [(0, .ref 0), (1, .int x1)] [.int r11] m10
      exact x_iret (ty := .int) rfl rfl (dk zX10_lose 14 rfl) hm10
  · have hc3f := hm1.2 c3
    refine x_bipush (v := -2) (by decide) (dk zX10_lose 3 rfl) ?_
    exact x_iret (ty := .int) rfl rfl (dk zX10_lose 4 rfl) hc3f
set_option maxRecDepth 20000 in
set_option maxHeartbeats 2000000 in
theorem gX10_lay_0 {E : EV} {Q : Po} {μ : Mem} {x1 : Int32} {x2 : Int32} {x3 : Int32} {x4 : Int32} (h : Sp E MX10_isSheet [.int x1] μ (fun v m1 => ∃ r2 : Int32, v = some (.int r2) ∧ ((r2 = 0 → Q (some (.int ((-2)))) m1) ∧ (¬ r2 = 0 → Sp E MX10_isForm [.int x2] m1 (fun v m4 => ∃ r5 : Int32, v = some (.int r5) ∧ ((¬ r5 = 0 → Sp E MX7_findingAt [.ref 107, .int x1, .int x2, .int x3] m4 (fun v m7 => ∃ r8 : Int32, v = some (.int r8) ∧ ((r8 = 0 → Sp E MX7_put [.ref 107, .int x1, .int x3, .int x4] m7 (fun v m10 => v = none ∧ Q (some (.int 1)) m10)) ∧ (¬ r8 = 0 → Sp E MX7_find [.ref 107, .int r8] m7 (fun v m11 => ∃ r12 : Int32, v = some (.int r12) ∧ Q (some (.int r12)) m11))))) ∧ (r5 = 0 → Q (some (.int ((-2)))) m4))))))) : Ex E MX10_lay Q 0 [(0, .ref 0), (1, .int x1), (2, .int x2), (3, .int x3), (4, .int x4)] [] μ := by
  refine x_iload_n 1 rfl rfl (dk zX10_lay 0 rfl) ?_
  refine x_callS (as := [.int x1]) (st := []) rfl okRX10_220 npX10_isSheet ⟨Nat.le_of_ble_eq_true rfl, Nat.le_of_ble_eq_true rfl⟩ (Nat.le_of_ble_eq_true rfl) (dk zX10_lay 1 rfl) ?_
  refine h.mono ?_
  rintro _ m1 ⟨r2, rfl, hm1⟩
  show Ex E MX10_lay Q 4 [(0, .ref 0), (1, .int x1), (2, .int x2), (3, .int x3), (4, .int x4)] [.int r2] m1
  refine x_if_eq (tgt := 14) (by decide) (dk zX10_lay 2 rfl) (fun c3 => ?_) (fun c3 => ?_)
  · have hc3t := hm1.1 c3
    refine x_bipush (v := -2) (by decide) (dk zX10_lay 6 rfl) ?_
    exact x_iret (ty := .int) rfl rfl (dk zX10_lay 7 rfl) hc3t
  · have hc3f := hm1.2 c3
    refine x_iload_n 2 rfl rfl (dk zX10_lay 3 rfl) ?_
    refine x_callS (as := [.int x2]) (st := []) rfl okRX10_291 npX10_isForm ⟨Nat.le_of_ble_eq_true rfl, Nat.le_of_ble_eq_true rfl⟩ (Nat.le_of_ble_eq_true rfl) (dk zX10_lay 4 rfl) ?_
    refine hc3f.mono ?_
    rintro _ m4 ⟨r5, rfl, hm4⟩
    show Ex E MX10_lay Q 11 [(0, .ref 0), (1, .int x1), (2, .int x2), (3, .int x3), (4, .int x4)] [.int r5] m4
    refine x_if_ne (tgt := 17) (by decide) (dk zX10_lay 5 rfl) (fun c6 => ?_) (fun c6 => ?_)
    · have hc6t := hm4.1 c6
      refine x_aload_n 0 rfl rfl (dk zX10_lay 8 rfl) ?_
      refine gf10_11 (r := 107) rfl k0 r0_11 (dk zX10_lay 9 rfl) ?_
      refine x_iload_n 1 rfl rfl (dk zX10_lay 10 rfl) ?_
      refine x_iload_n 2 rfl rfl (dk zX10_lay 11 rfl) ?_
      refine x_iload_n 3 rfl rfl (dk zX10_lay 12 rfl) ?_
      refine x_callV (as := [.int x1, .int x2, .int x3]) (o := 107) (ci := 7) (st := []) rfl okRX10_300 npX7_findingAt ⟨Nat.le_of_ble_eq_true rfl, Nat.le_of_ble_eq_true rfl⟩ k107 (by decide) rfl (Nat.le_of_ble_eq_true rfl) (dk zX10_lay 13 rfl) ?_
      refine hc6t.mono ?_
      rintro _ m7 ⟨r8, rfl, hm7⟩
      show Ex E MX10_lay Q 27 [(0, .ref 0), (1, .int x1), (2, .int x2), (3, .int x3), (4, .int x4)] [.int r8] m7
      refine x_istoreG (l' := [(0, .ref 0), (1, .int x1), (2, .int x2), (3, .int x3), (4, .int x4), (5, .int r8)]) [1, 2, 3, 4, 5, 0] rfl (by decide) (dk zX10_lay 14 rfl) ?_
      refine x_iload 5 rfl (dk zX10_lay 15 rfl) ?_
      refine x_if_eq (tgt := 44) (by decide) (dk zX10_lay 16 rfl) (fun c9 => ?_) (fun c9 => ?_)
      · have hc9t := hm7.1 c9
        refine x_aload_n 0 rfl rfl (dk zX10_lay 22 rfl) ?_
        refine gf10_11 (r := 107) rfl k0 r0_11 (dk zX10_lay 23 rfl) ?_
        refine x_iload_n 1 rfl rfl (dk zX10_lay 24 rfl) ?_
        refine x_iload_n 3 rfl rfl (dk zX10_lay 25 rfl) ?_
        refine x_iload 4 rfl (dk zX10_lay 26 rfl) ?_
        refine x_callV (as := [.int x1, .int x3, .int x4]) (o := 107) (ci := 7) (st := []) rfl okRX10_303 npX7_put ⟨Nat.le_of_ble_eq_true rfl, Nat.le_of_ble_eq_true rfl⟩ k107 (by decide) rfl (Nat.le_of_ble_eq_true rfl) (dk zX10_lay 27 rfl) ?_
        refine hc9t.mono ?_
        rintro _ m10 ⟨rfl, hm10⟩
        show Ex E MX10_lay Q 55 [(0, .ref 0), (1, .int x1), (2, .int x2), (3, .int x3), (4, .int x4), (5, .int r8)] [] m10
        refine x_iconst (v := 1) (by decide) (dk zX10_lay 28 rfl) ?_
        exact x_iret (ty := .int) rfl rfl (dk zX10_lay 29 rfl) hm10
      · have hc9f := hm7.2 c9
        refine x_aload_n 0 rfl rfl (dk zX10_lay 17 rfl) ?_
        refine gf10_11 (r := 107) rfl k0 r0_11 (dk zX10_lay 18 rfl) ?_
        refine x_iload 5 rfl (dk zX10_lay 19 rfl) ?_
        refine x_callV (as := [.int r8]) (o := 107) (ci := 7) (st := []) rfl okRX10_226 npX7_find ⟨Nat.le_of_ble_eq_true rfl, Nat.le_of_ble_eq_true rfl⟩ k107 (by decide) rfl (Nat.le_of_ble_eq_true rfl) (dk zX10_lay 20 rfl) ?_
        refine hc9f.mono ?_
        rintro _ m11 ⟨r12, rfl, hm11⟩
        show Ex E MX10_lay Q 43 [(0, .ref 0), (1, .int x1), (2, .int x2), (3, .int x3), (4, .int x4), (5, .int r8)] [.int r12] m11
        exact x_iret (ty := .int) rfl rfl (dk zX10_lay 21 rfl) hm11
    · have hc6f := hm4.2 c6
      refine x_bipush (v := -2) (by decide) (dk zX10_lay 6 rfl) ?_
      exact x_iret (ty := .int) rfl rfl (dk zX10_lay 7 rfl) hc6f
set_option maxRecDepth 20000 in
set_option maxHeartbeats 2000000 in
theorem gX10_get_0 {E : EV} {Q : Po} {μ : Mem} {x1 : Int32} {x2 : Int32} {x3 : Int32} (h : Sp E MX10_isSheet [.int x1] μ (fun v m1 => ∃ r2 : Int32, v = some (.int r2) ∧ ((r2 = 0 → Q (some (.int ((-2147483648)))) m1) ∧ (¬ r2 = 0 → Sp E MX10_isForm [.int x2] m1 (fun v m4 => ∃ r5 : Int32, v = some (.int r5) ∧ ((¬ r5 = 0 → Sp E MX7_findingAt [.ref 107, .int x1, .int x2, .int x3] m4 (fun v m7 => ∃ r8 : Int32, v = some (.int r8) ∧ ((r8 = 0 → Sp E MX7_item [.ref 107, .int x1, .int x3] m7 (fun v m10 => ∃ r11 : Int32, v = some (.int r11) ∧ Q (some (.int r11)) m10)) ∧ (¬ r8 = 0 → Sp E MX7_find [.ref 107, .int r8] m7 (fun v m12 => ∃ r13 : Int32, v = some (.int r13) ∧ Q (some (.int ((-2147483648)))) m12))))) ∧ (r5 = 0 → Q (some (.int ((-2147483648)))) m4))))))) : Ex E MX10_get Q 0 [(0, .ref 0), (1, .int x1), (2, .int x2), (3, .int x3)] [] μ := by
  refine x_iload_n 1 rfl rfl (dk zX10_get 0 rfl) ?_
  refine x_callS (as := [.int x1]) (st := []) rfl okRX10_220 npX10_isSheet ⟨Nat.le_of_ble_eq_true rfl, Nat.le_of_ble_eq_true rfl⟩ (Nat.le_of_ble_eq_true rfl) (dk zX10_get 1 rfl) ?_
  refine h.mono ?_
  rintro _ m1 ⟨r2, rfl, hm1⟩
  show Ex E MX10_get Q 4 [(0, .ref 0), (1, .int x1), (2, .int x2), (3, .int x3)] [.int r2] m1
  refine x_if_eq (tgt := 14) (by decide) (dk zX10_get 2 rfl) (fun c3 => ?_) (fun c3 => ?_)
  · have hc3t := hm1.1 c3
    refine x_ldcw (v := -2147483648) rfl wkRX10_306 (dk zX10_get 6 rfl) ?_
    exact x_iret (ty := .int) rfl rfl (dk zX10_get 7 rfl) hc3t
  · have hc3f := hm1.2 c3
    refine x_iload_n 2 rfl rfl (dk zX10_get 3 rfl) ?_
    refine x_callS (as := [.int x2]) (st := []) rfl okRX10_291 npX10_isForm ⟨Nat.le_of_ble_eq_true rfl, Nat.le_of_ble_eq_true rfl⟩ (Nat.le_of_ble_eq_true rfl) (dk zX10_get 4 rfl) ?_
    refine hc3f.mono ?_
    rintro _ m4 ⟨r5, rfl, hm4⟩
    show Ex E MX10_get Q 11 [(0, .ref 0), (1, .int x1), (2, .int x2), (3, .int x3)] [.int r5] m4
    refine x_if_ne (tgt := 18) (by decide) (dk zX10_get 5 rfl) (fun c6 => ?_) (fun c6 => ?_)
    · have hc6t := hm4.1 c6
      refine x_aload_n 0 rfl rfl (dk zX10_get 8 rfl) ?_
      refine gf10_11 (r := 107) rfl k0 r0_11 (dk zX10_get 9 rfl) ?_
      refine x_iload_n 1 rfl rfl (dk zX10_get 10 rfl) ?_
      refine x_iload_n 2 rfl rfl (dk zX10_get 11 rfl) ?_
      refine x_iload_n 3 rfl rfl (dk zX10_get 12 rfl) ?_
      refine x_callV (as := [.int x1, .int x2, .int x3]) (o := 107) (ci := 7) (st := []) rfl okRX10_300 npX7_findingAt ⟨Nat.le_of_ble_eq_true rfl, Nat.le_of_ble_eq_true rfl⟩ k107 (by decide) rfl (Nat.le_of_ble_eq_true rfl) (dk zX10_get 13 rfl) ?_
      refine hc6t.mono ?_
      rintro _ m7 ⟨r8, rfl, hm7⟩
      show Ex E MX10_get Q 28 [(0, .ref 0), (1, .int x1), (2, .int x2), (3, .int x3)] [.int r8] m7
      refine x_istoreG (l' := [(0, .ref 0), (1, .int x1), (2, .int x2), (3, .int x3), (4, .int r8)]) [1, 2, 3, 4, 0] rfl (by decide) (dk zX10_get 14 rfl) ?_
      refine x_iload 4 rfl (dk zX10_get 15 rfl) ?_
      refine x_if_eq (tgt := 49) (by decide) (dk zX10_get 16 rfl) (fun c9 => ?_) (fun c9 => ?_)
      · have hc9t := hm7.1 c9
        refine x_aload_n 0 rfl rfl (dk zX10_get 24 rfl) ?_
        refine gf10_11 (r := 107) rfl k0 r0_11 (dk zX10_get 25 rfl) ?_
        refine x_iload_n 1 rfl rfl (dk zX10_get 26 rfl) ?_
        refine x_iload_n 3 rfl rfl (dk zX10_get 27 rfl) ?_
        refine x_callV (as := [.int x1, .int x3]) (o := 107) (ci := 7) (st := []) rfl okRX10_231 npX7_item ⟨Nat.le_of_ble_eq_true rfl, Nat.le_of_ble_eq_true rfl⟩ k107 (by decide) rfl (Nat.le_of_ble_eq_true rfl) (dk zX10_get 28 rfl) ?_
        refine hc9t.mono ?_
        rintro _ m10 ⟨r11, rfl, hm10⟩
        show Ex E MX10_get Q 58 [(0, .ref 0), (1, .int x1), (2, .int x2), (3, .int x3), (4, .int r8)] [.int r11] m10
        exact x_iret (ty := .int) rfl rfl (dk zX10_get 29 rfl) hm10
      · have hc9f := hm7.2 c9
        refine x_aload_n 0 rfl rfl (dk zX10_get 17 rfl) ?_
        refine gf10_11 (r := 107) rfl k0 r0_11 (dk zX10_get 18 rfl) ?_
        refine x_iload 4 rfl (dk zX10_get 19 rfl) ?_
        refine x_callV (as := [.int r8]) (o := 107) (ci := 7) (st := []) rfl okRX10_226 npX7_find ⟨Nat.le_of_ble_eq_true rfl, Nat.le_of_ble_eq_true rfl⟩ k107 (by decide) rfl (Nat.le_of_ble_eq_true rfl) (dk zX10_get 20 rfl) ?_
        refine hc9f.mono ?_
        rintro _ m12 ⟨r13, rfl, hm12⟩
        show Ex E MX10_get Q 44 [(0, .ref 0), (1, .int x1), (2, .int x2), (3, .int x3), (4, .int r8)] [.int r13] m12
        refine x_popi (dk zX10_get 21 rfl) ?_
        refine x_ldcw (v := -2147483648) rfl wkRX10_306 (dk zX10_get 22 rfl) ?_
        exact x_iret (ty := .int) rfl rfl (dk zX10_get 23 rfl) hm12
    · have hc6f := hm4.2 c6
      refine x_ldcw (v := -2147483648) rfl wkRX10_306 (dk zX10_get 6 rfl) ?_
      exact x_iret (ty := .int) rfl rfl (dk zX10_get 7 rfl) hc6f
set_option maxRecDepth 20000 in
set_option maxHeartbeats 2000000 in
theorem gX10_copy_0 {E : EV} {Q : Po} {μ : Mem} {x1 : Int32} {x2 : Int32} {x3 : Int32} {x4 : Int32} {x5 : Int32} (h : Sp E MX10_isSheet [.int x1] μ (fun v m1 => ∃ r2 : Int32, v = some (.int r2) ∧ ((r2 = 0 → Q (some (.int ((-2)))) m1) ∧ (¬ r2 = 0 → Sp E MX10_isSheet [.int x3] m1 (fun v m4 => ∃ r5 : Int32, v = some (.int r5) ∧ ((¬ r5 = 0 → Sp E MX7_findingOfCopy [.ref 107, .int x1, .int x2, .int x3, .int x4, .int x5] m4 (fun v m7 => ∃ r8 : Int32, v = some (.int r8) ∧ ((r8 = 0 → Sp E MX7_move [.ref 107, .int x1, .int x2, .int x3, .int x4, .int x5] m7 (fun v m10 => v = none ∧ Q (some (.int 1)) m10)) ∧ (¬ r8 = 0 → Sp E MX7_find [.ref 107, .int r8] m7 (fun v m11 => ∃ r12 : Int32, v = some (.int r12) ∧ Q (some (.int r12)) m11))))) ∧ (r5 = 0 → Q (some (.int ((-2)))) m4))))))) : Ex E MX10_copy Q 0 [(0, .ref 0), (1, .int x1), (2, .int x2), (3, .int x3), (4, .int x4), (5, .int x5)] [] μ := by
  refine x_iload_n 1 rfl rfl (dk zX10_copy 0 rfl) ?_
  refine x_callS (as := [.int x1]) (st := []) rfl okRX10_220 npX10_isSheet ⟨Nat.le_of_ble_eq_true rfl, Nat.le_of_ble_eq_true rfl⟩ (Nat.le_of_ble_eq_true rfl) (dk zX10_copy 1 rfl) ?_
  refine h.mono ?_
  rintro _ m1 ⟨r2, rfl, hm1⟩
  show Ex E MX10_copy Q 4 [(0, .ref 0), (1, .int x1), (2, .int x2), (3, .int x3), (4, .int x4), (5, .int x5)] [.int r2] m1
  refine x_if_eq (tgt := 14) (by decide) (dk zX10_copy 2 rfl) (fun c3 => ?_) (fun c3 => ?_)
  · have hc3t := hm1.1 c3
    refine x_bipush (v := -2) (by decide) (dk zX10_copy 6 rfl) ?_
    exact x_iret (ty := .int) rfl rfl (dk zX10_copy 7 rfl) hc3t
  · have hc3f := hm1.2 c3
    refine x_iload_n 3 rfl rfl (dk zX10_copy 3 rfl) ?_
    refine x_callS (as := [.int x3]) (st := []) rfl okRX10_220 npX10_isSheet ⟨Nat.le_of_ble_eq_true rfl, Nat.le_of_ble_eq_true rfl⟩ (Nat.le_of_ble_eq_true rfl) (dk zX10_copy 4 rfl) ?_
    refine hc3f.mono ?_
    rintro _ m4 ⟨r5, rfl, hm4⟩
    show Ex E MX10_copy Q 11 [(0, .ref 0), (1, .int x1), (2, .int x2), (3, .int x3), (4, .int x4), (5, .int x5)] [.int r5] m4
    refine x_if_ne (tgt := 17) (by decide) (dk zX10_copy 5 rfl) (fun c6 => ?_) (fun c6 => ?_)
    · have hc6t := hm4.1 c6
      refine x_aload_n 0 rfl rfl (dk zX10_copy 8 rfl) ?_
      refine gf10_11 (r := 107) rfl k0 r0_11 (dk zX10_copy 9 rfl) ?_
      refine x_iload_n 1 rfl rfl (dk zX10_copy 10 rfl) ?_
      refine x_iload_n 2 rfl rfl (dk zX10_copy 11 rfl) ?_
      refine x_iload_n 3 rfl rfl (dk zX10_copy 12 rfl) ?_
      refine x_iload 4 rfl (dk zX10_copy 13 rfl) ?_
      refine x_iload 5 rfl (dk zX10_copy 14 rfl) ?_
      refine x_callV (as := [.int x1, .int x2, .int x3, .int x4, .int x5]) (o := 107) (ci := 7) (st := []) rfl okRX10_307 npX7_findingOfCopy ⟨Nat.le_of_ble_eq_true rfl, Nat.le_of_ble_eq_true rfl⟩ k107 (by decide) rfl (Nat.le_of_ble_eq_true rfl) (dk zX10_copy 15 rfl) ?_
      refine hc6t.mono ?_
      rintro _ m7 ⟨r8, rfl, hm7⟩
      show Ex E MX10_copy Q 31 [(0, .ref 0), (1, .int x1), (2, .int x2), (3, .int x3), (4, .int x4), (5, .int x5)] [.int r8] m7
      refine x_istoreG (l' := [(0, .ref 0), (1, .int x1), (2, .int x2), (3, .int x3), (4, .int x4), (5, .int x5), (6, .int r8)]) [1, 2, 3, 4, 5, 6, 0] rfl (by decide) (dk zX10_copy 16 rfl) ?_
      refine x_iload 6 rfl (dk zX10_copy 17 rfl) ?_
      refine x_if_eq (tgt := 48) (by decide) (dk zX10_copy 18 rfl) (fun c9 => ?_) (fun c9 => ?_)
      · have hc9t := hm7.1 c9
        refine x_aload_n 0 rfl rfl (dk zX10_copy 24 rfl) ?_
        refine gf10_11 (r := 107) rfl k0 r0_11 (dk zX10_copy 25 rfl) ?_
        refine x_iload_n 1 rfl rfl (dk zX10_copy 26 rfl) ?_
        refine x_iload_n 2 rfl rfl (dk zX10_copy 27 rfl) ?_
        refine x_iload_n 3 rfl rfl (dk zX10_copy 28 rfl) ?_
        refine x_iload 4 rfl (dk zX10_copy 29 rfl) ?_
        refine x_iload 5 rfl (dk zX10_copy 30 rfl) ?_
        refine x_callV (as := [.int x1, .int x2, .int x3, .int x4, .int x5]) (o := 107) (ci := 7) (st := []) rfl okRX10_311 npX7_move ⟨Nat.le_of_ble_eq_true rfl, Nat.le_of_ble_eq_true rfl⟩ k107 (by decide) rfl (Nat.le_of_ble_eq_true rfl) (dk zX10_copy 31 rfl) ?_
        refine hc9t.mono ?_
        rintro _ m10 ⟨rfl, hm10⟩
        show Ex E MX10_copy Q 62 [(0, .ref 0), (1, .int x1), (2, .int x2), (3, .int x3), (4, .int x4), (5, .int x5), (6, .int r8)] [] m10
        refine x_iconst (v := 1) (by decide) (dk zX10_copy 32 rfl) ?_
        exact x_iret (ty := .int) rfl rfl (dk zX10_copy 33 rfl) hm10
      · have hc9f := hm7.2 c9
        refine x_aload_n 0 rfl rfl (dk zX10_copy 19 rfl) ?_
        refine gf10_11 (r := 107) rfl k0 r0_11 (dk zX10_copy 20 rfl) ?_
        refine x_iload 6 rfl (dk zX10_copy 21 rfl) ?_
        refine x_callV (as := [.int r8]) (o := 107) (ci := 7) (st := []) rfl okRX10_226 npX7_find ⟨Nat.le_of_ble_eq_true rfl, Nat.le_of_ble_eq_true rfl⟩ k107 (by decide) rfl (Nat.le_of_ble_eq_true rfl) (dk zX10_copy 22 rfl) ?_
        refine hc9f.mono ?_
        rintro _ m11 ⟨r12, rfl, hm11⟩
        show Ex E MX10_copy Q 47 [(0, .ref 0), (1, .int x1), (2, .int x2), (3, .int x3), (4, .int x4), (5, .int x5), (6, .int r8)] [.int r12] m11
        exact x_iret (ty := .int) rfl rfl (dk zX10_copy 23 rfl) hm11
    · have hc6f := hm4.2 c6
      refine x_bipush (v := -2) (by decide) (dk zX10_copy 6 rfl) ?_
      exact x_iret (ty := .int) rfl rfl (dk zX10_copy 7 rfl) hc6f
set_option maxRecDepth 20000 in
set_option maxHeartbeats 2000000 in
theorem gX10_write_0 {E : EV} {Q : Po} {μ : Mem} {x1 : Int32} {x2 : Int32} (h : Sp E MX10_isWay [.int x1] μ (fun v m1 => ∃ r2 : Int32, v = some (.int r2) ∧ ((r2 = 0 → Q (some (.int ((-2)))) m1) ∧ (¬ r2 = 0 → Sp E MX10_isSheet [.int x2] m1 (fun v m4 => ∃ r5 : Int32, v = some (.int r5) ∧ ((¬ r5 = 0 → Sp E MX7_isLost [.ref 107, .int x2] m4 (fun v m7 => ∃ r8 : Int32, v = some (.int r8) ∧ ((r8 = 0 → Sp E MX10_stampWay [.ref 0, .int x1, .ref 4] m7 (fun v m10 => v = none ∧ Sp E MX5_size [.ref 4] m10 (fun v m11 => ∃ r12 : Int32, v = some (.int r12) ∧ Sp E MX7_size [.ref 107, .int x2] m11 (fun v m13 => ∃ r14 : Int32, v = some (.int r14) ∧ ∀ v15 : Int32, v15 = (if r14 < r12 then r14 else r12) → Ex E MX10_write Q 68 [(0, .ref 0), (1, .int x1), (2, .int x2), (3, .int v15), (4, .int 0)] [] m13)))) ∧ (¬ r8 = 0 → Sp E MX7_find [.ref 107, .int 1] m7 (fun v m16 => ∃ r17 : Int32, v = some (.int r17) ∧ Q (some (.int r17)) m16))))) ∧ (r5 = 0 → Q (some (.int ((-2)))) m4))))))) : Ex E MX10_write Q 0 [(0, .ref 0), (1, .int x1), (2, .int x2)] [] μ := by
  refine x_iload_n 1 rfl rfl (dk zX10_write 0 rfl) ?_
  refine x_callS (as := [.int x1]) (st := []) rfl okRX10_139 npX10_isWay ⟨Nat.le_of_ble_eq_true rfl, Nat.le_of_ble_eq_true rfl⟩ (Nat.le_of_ble_eq_true rfl) (dk zX10_write 1 rfl) ?_
  refine h.mono ?_
  rintro _ m1 ⟨r2, rfl, hm1⟩
  show Ex E MX10_write Q 4 [(0, .ref 0), (1, .int x1), (2, .int x2)] [.int r2] m1
  refine x_if_eq (tgt := 14) (by decide) (dk zX10_write 2 rfl) (fun c3 => ?_) (fun c3 => ?_)
  · have hc3t := hm1.1 c3
    refine x_bipush (v := -2) (by decide) (dk zX10_write 6 rfl) ?_
    exact x_iret (ty := .int) rfl rfl (dk zX10_write 7 rfl) hc3t
  · have hc3f := hm1.2 c3
    refine x_iload_n 2 rfl rfl (dk zX10_write 3 rfl) ?_
    refine x_callS (as := [.int x2]) (st := []) rfl okRX10_220 npX10_isSheet ⟨Nat.le_of_ble_eq_true rfl, Nat.le_of_ble_eq_true rfl⟩ (Nat.le_of_ble_eq_true rfl) (dk zX10_write 4 rfl) ?_
    refine hc3f.mono ?_
    rintro _ m4 ⟨r5, rfl, hm4⟩
    show Ex E MX10_write Q 11 [(0, .ref 0), (1, .int x1), (2, .int x2)] [.int r5] m4
    refine x_if_ne (tgt := 17) (by decide) (dk zX10_write 5 rfl) (fun c6 => ?_) (fun c6 => ?_)
    · have hc6t := hm4.1 c6
      refine x_aload_n 0 rfl rfl (dk zX10_write 8 rfl) ?_
      refine gf10_11 (r := 107) rfl k0 r0_11 (dk zX10_write 9 rfl) ?_
      refine x_iload_n 2 rfl rfl (dk zX10_write 10 rfl) ?_
      refine x_callV (as := [.int x2]) (o := 107) (ci := 7) (st := []) rfl okRX10_223 npX7_isLost ⟨Nat.le_of_ble_eq_true rfl, Nat.le_of_ble_eq_true rfl⟩ k107 (by decide) rfl (Nat.le_of_ble_eq_true rfl) (dk zX10_write 11 rfl) ?_
      refine hc6t.mono ?_
      rintro _ m7 ⟨r8, rfl, hm7⟩
      show Ex E MX10_write Q 25 [(0, .ref 0), (1, .int x1), (2, .int x2)] [.int r8] m7
      refine x_if_eq (tgt := 37) (by decide) (dk zX10_write 12 rfl) (fun c9 => ?_) (fun c9 => ?_)
      · have hc9t := hm7.1 c9
        refine x_aload_n 0 rfl rfl (dk zX10_write 18 rfl) ?_
        refine x_iload_n 1 rfl rfl (dk zX10_write 19 rfl) ?_
        refine x_aload_n 0 rfl rfl (dk zX10_write 20 rfl) ?_
        refine gf10_2 (r := 4) rfl k0 r0_2 (dk zX10_write 21 rfl) ?_
        refine x_callV (as := [.int x1, .ref 4]) (o := 0) (ci := 10) (st := []) rfl okRX10_142 npX10_stampWay ⟨Nat.le_of_ble_eq_true rfl, Nat.le_of_ble_eq_true rfl⟩ k0 (by decide) rfl (Nat.le_of_ble_eq_true rfl) (dk zX10_write 22 rfl) ?_
        refine hc9t.mono ?_
        rintro _ m10 ⟨rfl, hm10⟩
        show Ex E MX10_write Q 46 [(0, .ref 0), (1, .int x1), (2, .int x2)] [] m10
        refine x_aload_n 0 rfl rfl (dk zX10_write 23 rfl) ?_
        refine gf10_2 (r := 4) rfl k0 r0_2 (dk zX10_write 24 rfl) ?_
        refine x_callV (as := []) (o := 4) (ci := 5) (st := []) rfl okRX10_146 npX5_size ⟨Nat.le_of_ble_eq_true rfl, Nat.le_of_ble_eq_true rfl⟩ k4 (by decide) rfl (Nat.le_of_ble_eq_true rfl) (dk zX10_write 25 rfl) ?_
        refine hm10.mono ?_
        rintro _ m11 ⟨r12, rfl, hm11⟩
        show Ex E MX10_write Q 53 [(0, .ref 0), (1, .int x1), (2, .int x2)] [.int r12] m11
        refine x_aload_n 0 rfl rfl (dk zX10_write 26 rfl) ?_
        refine gf10_11 (r := 107) rfl k0 r0_11 (dk zX10_write 27 rfl) ?_
        refine x_iload_n 2 rfl rfl (dk zX10_write 28 rfl) ?_
        refine x_callV (as := [.int x2]) (o := 107) (ci := 7) (st := [.int r12]) rfl okRX10_229 npX7_size ⟨Nat.le_of_ble_eq_true rfl, Nat.le_of_ble_eq_true rfl⟩ k107 (by decide) rfl (Nat.le_of_ble_eq_true rfl) (dk zX10_write 29 rfl) ?_
        refine hm11.mono ?_
        rintro _ m13 ⟨r14, rfl, hm13⟩
        show Ex E MX10_write Q 61 [(0, .ref 0), (1, .int x1), (2, .int x2)] [.int r14, .int r12] m13
        refine x_mmin rfl wmRX10_315 wmmin_s wmi wmmin_c (Nat.le_of_ble_eq_true rfl) (Nat.le_of_ble_eq_true rfl) (dk zX10_write 30 rfl) ?_
        refine x_topi (fun v15 ev15 => ?_)
        have hv15 := hm13 v15 ev15
        refine x_istore_n (k := 3) (l' := [(0, .ref 0), (1, .int x1), (2, .int x2), (3, .int v15)]) [1, 2, 3, 0] rfl rfl (by decide) (dk zX10_write 31 rfl) ?_
        refine x_iconst (v := 0) (by decide) (dk zX10_write 32 rfl) ?_
        refine x_istoreG (l' := [(0, .ref 0), (1, .int x1), (2, .int x2), (3, .int v15), (4, .int 0)]) [1, 2, 3, 4, 0] rfl (by decide) (dk zX10_write 33 rfl) ?_
        exact hv15
      · have hc9f := hm7.2 c9
        refine x_aload_n 0 rfl rfl (dk zX10_write 13 rfl) ?_
        refine gf10_11 (r := 107) rfl k0 r0_11 (dk zX10_write 14 rfl) ?_
        refine x_iconst (v := 1) (by decide) (dk zX10_write 15 rfl) ?_
        refine x_callV (as := [.int 1]) (o := 107) (ci := 7) (st := []) rfl okRX10_226 npX7_find ⟨Nat.le_of_ble_eq_true rfl, Nat.le_of_ble_eq_true rfl⟩ k107 (by decide) rfl (Nat.le_of_ble_eq_true rfl) (dk zX10_write 16 rfl) ?_
        refine hc9f.mono ?_
        rintro _ m16 ⟨r17, rfl, hm16⟩
        show Ex E MX10_write Q 36 [(0, .ref 0), (1, .int x1), (2, .int x2)] [.int r17] m16
        exact x_iret (ty := .int) rfl rfl (dk zX10_write 17 rfl) hm16
    · have hc6f := hm4.2 c6
      refine x_bipush (v := -2) (by decide) (dk zX10_write 6 rfl) ?_
      exact x_iret (ty := .int) rfl rfl (dk zX10_write 7 rfl) hc6f
set_option maxRecDepth 20000 in
set_option maxHeartbeats 2000000 in
theorem gX10_write_68 {E : EV} {Q : Po} {μ : Mem} {x1 : Int32} {x2 : Int32} {x3 : Int32} {x4 : Int32} (h : ((x3 ≤ x4 → Q (some (.int x3)) μ) ∧ (¬ x3 ≤ x4 → Sp E MX5_at [.ref 4, .int x4] μ (fun v m2 => ∃ r3 : Int32, v = some (.int r3) ∧ Sp E MX10_byteOf [.int r3] m2 (fun v m4 => ∃ r5 : Int32, v = some (.int r5) ∧ Sp E MX7_put [.ref 107, .int x2, .int x4, .int r5] m4 (fun v m6 => v = none ∧ ∀ v7 : Int32, v7 = x4 + 1 → Ex E MX10_write Q 68 [(0, .ref 0), (1, .int x1), (2, .int x2), (3, .int x3), (4, .int v7)] [] m6)))))) : Ex E MX10_write Q 68 [(0, .ref 0), (1, .int x1), (2, .int x2), (3, .int x3), (4, .int x4)] [] μ := by
  refine x_iload 4 rfl (dk zX10_write 34 rfl) ?_
  refine x_iload_n 3 rfl rfl (dk zX10_write 35 rfl) ?_
  refine x_icmp_ge (tgt := 102) (by decide) (dk zX10_write 36 rfl) (fun c1 => ?_) (fun c1 => ?_)
  · have hc1t := h.1 c1
    refine x_iload_n 3 rfl rfl (dk zX10_write 49 rfl) ?_
    exact x_iret (ty := .int) rfl rfl (dk zX10_write 50 rfl) hc1t
  · have hc1f := h.2 c1
    refine x_aload_n 0 rfl rfl (dk zX10_write 37 rfl) ?_
    refine gf10_11 (r := 107) rfl k0 r0_11 (dk zX10_write 38 rfl) ?_
    refine x_iload_n 2 rfl rfl (dk zX10_write 39 rfl) ?_
    refine x_iload 4 rfl (dk zX10_write 40 rfl) ?_
    refine x_aload_n 0 rfl rfl (dk zX10_write 41 rfl) ?_
    refine gf10_2 (r := 4) rfl k0 r0_2 (dk zX10_write 42 rfl) ?_
    refine x_iload 4 rfl (dk zX10_write 43 rfl) ?_
    refine x_callV (as := [.int x4]) (o := 4) (ci := 5) (st := [.int x4, .int x2, .ref 107]) rfl okRX10_147 npX5_at ⟨Nat.le_of_ble_eq_true rfl, Nat.le_of_ble_eq_true rfl⟩ k4 (by decide) rfl (Nat.le_of_ble_eq_true rfl) (dk zX10_write 44 rfl) ?_
    refine hc1f.mono ?_
    rintro _ m2 ⟨r3, rfl, hm2⟩
    show Ex E MX10_write Q 90 [(0, .ref 0), (1, .int x1), (2, .int x2), (3, .int x3), (4, .int x4)] [.int r3, .int x4, .int x2, .ref 107] m2
    refine x_callS (as := [.int r3]) (st := [.int x4, .int x2, .ref 107]) rfl okRX10_150 npX10_byteOf ⟨Nat.le_of_ble_eq_true rfl, Nat.le_of_ble_eq_true rfl⟩ (Nat.le_of_ble_eq_true rfl) (dk zX10_write 45 rfl) ?_
    refine hm2.mono ?_
    rintro _ m4 ⟨r5, rfl, hm4⟩
    show Ex E MX10_write Q 93 [(0, .ref 0), (1, .int x1), (2, .int x2), (3, .int x3), (4, .int x4)] [.int r5, .int x4, .int x2, .ref 107] m4
    refine x_callV (as := [.int x2, .int x4, .int r5]) (o := 107) (ci := 7) (st := []) rfl okRX10_303 npX7_put ⟨Nat.le_of_ble_eq_true rfl, Nat.le_of_ble_eq_true rfl⟩ k107 (by decide) rfl (Nat.le_of_ble_eq_true rfl) (dk zX10_write 46 rfl) ?_
    refine hm4.mono ?_
    rintro _ m6 ⟨rfl, hm6⟩
    show Ex E MX10_write Q 96 [(0, .ref 0), (1, .int x1), (2, .int x2), (3, .int x3), (4, .int x4)] [] m6
    obtain ⟨v7, ev7⟩ : ∃ y : Int32, y = x4 + 1 := ⟨_, rfl⟩
    have hv7 := hm6 v7 ev7
    refine x_iinc (v := v7) (l' := [(0, .ref 0), (1, .int x1), (2, .int x2), (3, .int x3), (4, .int v7)]) 4 rfl (by rw [ev7]; rfl) [1, 2, 3, 4, 0] rfl (by decide) (dk zX10_write 47 rfl) ?_
    refine x_goto (tgt := 68) (by decide) (dk zX10_write 48 rfl) ?_
    exact hv7
set_option maxRecDepth 20000 in
set_option maxHeartbeats 2000000 in
theorem gX10_count_0 {E : EV} {Q : Po} {μ : Mem} {x1 : Int32} (h : ((x1 < 0 → Q (some (.int ((-2)))) μ) ∧ (¬ x1 < 0 → ((x1 ≤ 8 → ((x1 = 0 → Sp E MX3_gatesTold [.ref 1] μ (fun v m4 => ∃ r5 : Int32, v = some (.int r5) ∧ Q (some (.int r5)) m4)) ∧ ((x1 = 1 → Sp E MX3_gatesWatched [.ref 1] μ (fun v m7 => ∃ r8 : Int32, v = some (.int r8) ∧ Q (some (.int r8)) m7)) ∧ ((x1 = 2 → vp_in (x1 - 2) 4 ∧ (Sp E MX8_size [.ref (115 + 2 * (x1 - 2).toNatClampNeg)] μ (fun v m11 => ∃ r12 : Int32, v = some (.int r12) ∧ Q (some (.int r12)) m11))) ∧ ((x1 = 3 → vp_in (x1 - 2) 4 ∧ (Sp E MX8_size [.ref (115 + 2 * (x1 - 2).toNatClampNeg)] μ (fun v m15 => ∃ r16 : Int32, v = some (.int r16) ∧ Q (some (.int r16)) m15))) ∧ ((x1 = 4 → vp_in (x1 - 2) 4 ∧ (Sp E MX8_size [.ref (115 + 2 * (x1 - 2).toNatClampNeg)] μ (fun v m19 => ∃ r20 : Int32, v = some (.int r20) ∧ Q (some (.int r20)) m19))) ∧ ((x1 = 5 → vp_in (x1 - 2) 4 ∧ (Sp E MX8_size [.ref (115 + 2 * (x1 - 2).toNatClampNeg)] μ (fun v m23 => ∃ r24 : Int32, v = some (.int r24) ∧ Q (some (.int r24)) m23))) ∧ ((x1 = 6 → Sp E MX4_size [.ref 78] μ (fun v m26 => ∃ r27 : Int32, v = some (.int r27) ∧ Q (some (.int r27)) m26)) ∧ ((x1 = 7 → Sp E MX4_goodOnes [.ref 78] μ (fun v m29 => ∃ r30 : Int32, v = some (.int r30) ∧ Q (some (.int r30)) m29)) ∧ ((x1 = 8 → Sp E MX7_latestFinding [.ref 107] μ (fun v m32 => ∃ r33 : Int32, v = some (.int r33) ∧ Q (some (.int r33)) m32)) ∧ (¬ x1 = 0 → ¬ x1 = 1 → ¬ x1 = 2 → ¬ x1 = 3 → ¬ x1 = 4 → ¬ x1 = 5 → ¬ x1 = 6 → ¬ x1 = 7 → ¬ x1 = 8 → vp_in (x1 - 2) 4 ∧ (Sp E MX8_size [.ref (115 + 2 * (x1 - 2).toNatClampNeg)] μ (fun v m36 => ∃ r37 : Int32, v = some (.int r37) ∧ Q (some (.int r37)) m36))))))))))))) ∧ (¬ x1 ≤ 8 → Q (some (.int ((-2)))) μ))))) : Ex E MX10_count Q 0 [(0, .ref 0), (1, .int x1)] [] μ := by
  refine x_iload_n 1 rfl rfl (dk zX10_count 0 rfl) ?_
  refine x_if_lt (tgt := 10) (by decide) (dk zX10_count 1 rfl) (fun c1 => ?_) (fun c1 => ?_)
  · have hc1t := h.1 c1
    refine x_bipush (v := -2) (by decide) (dk zX10_count 5 rfl) ?_
    exact x_iret (ty := .int) rfl rfl (dk zX10_count 6 rfl) hc1t
  · have hc1f := h.2 c1
    refine x_iload_n 1 rfl rfl (dk zX10_count 2 rfl) ?_
    refine x_bipush (v := 8) (by decide) (dk zX10_count 3 rfl) ?_
    refine x_icmp_le (tgt := 13) (by decide) (dk zX10_count 4 rfl) (fun c2 => ?_) (fun c2 => ?_)
    · have hc2t := hc1f.1 c2
      refine x_iload_n 1 rfl rfl (dk zX10_count 7 rfl) ?_
      by_cases c3 : x1 = 0
      · have hc3 := hc2t.1 c3
        refine x_tabIn (off := 50) (tgt := 64) (by rw [c3]; decide) (by rw [c3]; decide) (by rw [c3]; rfl) (by decide) (dk zX10_count 8 rfl) ?_
        refine x_aload_n 0 rfl rfl (dk zX10_count 9 rfl) ?_
        refine gf10_0 (r := 1) rfl k0 r0_0 (dk zX10_count 10 rfl) ?_
        refine x_callV (as := []) (o := 1) (ci := 3) (st := []) rfl okRX10_320 npX3_gatesTold ⟨Nat.le_of_ble_eq_true rfl, Nat.le_of_ble_eq_true rfl⟩ k1 (by decide) rfl (Nat.le_of_ble_eq_true rfl) (dk zX10_count 11 rfl) ?_
        refine hc3.mono ?_
        rintro _ m4 ⟨r5, rfl, hm4⟩
        show Ex E MX10_count Q 71 [(0, .ref 0), (1, .int x1)] [.int r5] m4
        exact x_iret (ty := .int) rfl rfl (dk zX10_count 12 rfl) hm4
      by_cases c6 : x1 = 1
      · have hc6 := hc2t.2.1 c6
        refine x_tabIn (off := 58) (tgt := 72) (by rw [c6]; decide) (by rw [c6]; decide) (by rw [c6]; rfl) (by decide) (dk zX10_count 8 rfl) ?_
        refine x_aload_n 0 rfl rfl (dk zX10_count 13 rfl) ?_
        refine gf10_0 (r := 1) rfl k0 r0_0 (dk zX10_count 14 rfl) ?_
        refine x_callV (as := []) (o := 1) (ci := 3) (st := []) rfl okRX10_323 npX3_gatesWatched ⟨Nat.le_of_ble_eq_true rfl, Nat.le_of_ble_eq_true rfl⟩ k1 (by decide) rfl (Nat.le_of_ble_eq_true rfl) (dk zX10_count 15 rfl) ?_
        refine hc6.mono ?_
        rintro _ m7 ⟨r8, rfl, hm7⟩
        show Ex E MX10_count Q 79 [(0, .ref 0), (1, .int x1)] [.int r8] m7
        exact x_iret (ty := .int) rfl rfl (dk zX10_count 16 rfl) hm7
      by_cases c9 : x1 = 2
      · have hc9 := hc2t.2.2.1 c9
        refine x_tabIn (off := 90) (tgt := 104) (by rw [c9]; decide) (by rw [c9]; decide) (by rw [c9]; rfl) (by decide) (dk zX10_count 8 rfl) ?_
        refine x_aload_n 0 rfl rfl (dk zX10_count 29 rfl) ?_
        refine gf10_1 (r := 3) rfl k0 r0_1 (dk zX10_count 30 rfl) ?_
        refine x_iload_n 1 rfl rfl (dk zX10_count 31 rfl) ?_
        refine x_iconst (v := 2) (by decide) (dk zX10_count 32 rfl) ?_
        refine x_isub (dk zX10_count 33 rfl) ?_
        have b10 := hc9.1
        have hb10 := hc9.2
        refine y_aaldT (b := 115 + 2 * (x1 - 2).toNatClampNeg) k3 l3 b10 rfl (dk zX10_count 34 rfl) ?_
        refine x_callV (as := []) (o := 115 + 2 * (x1 - 2).toNatClampNeg) (ci := 8) (st := []) rfl okRX10_103 npX8_size ⟨Nat.le_of_ble_eq_true rfl, Nat.le_of_ble_eq_true rfl⟩ (sTxk b10) (by decide) rfl (Nat.le_of_ble_eq_true rfl) (dk zX10_count 35 rfl) ?_
        refine hb10.mono ?_
        rintro _ m11 ⟨r12, rfl, hm11⟩
        show Ex E MX10_count Q 115 [(0, .ref 0), (1, .int x1)] [.int r12] m11
        exact x_iret (ty := .int) rfl rfl (dk zX10_count 36 rfl) hm11
      by_cases c13 : x1 = 3
      · have hc13 := hc2t.2.2.2.1 c13
        refine x_tabIn (off := 90) (tgt := 104) (by rw [c13]; decide) (by rw [c13]; decide) (by rw [c13]; rfl) (by decide) (dk zX10_count 8 rfl) ?_
        refine x_aload_n 0 rfl rfl (dk zX10_count 29 rfl) ?_
        refine gf10_1 (r := 3) rfl k0 r0_1 (dk zX10_count 30 rfl) ?_
        refine x_iload_n 1 rfl rfl (dk zX10_count 31 rfl) ?_
        refine x_iconst (v := 2) (by decide) (dk zX10_count 32 rfl) ?_
        refine x_isub (dk zX10_count 33 rfl) ?_
        have b14 := hc13.1
        have hb14 := hc13.2
        refine y_aaldT (b := 115 + 2 * (x1 - 2).toNatClampNeg) k3 l3 b14 rfl (dk zX10_count 34 rfl) ?_
        refine x_callV (as := []) (o := 115 + 2 * (x1 - 2).toNatClampNeg) (ci := 8) (st := []) rfl okRX10_103 npX8_size ⟨Nat.le_of_ble_eq_true rfl, Nat.le_of_ble_eq_true rfl⟩ (sTxk b14) (by decide) rfl (Nat.le_of_ble_eq_true rfl) (dk zX10_count 35 rfl) ?_
        refine hb14.mono ?_
        rintro _ m15 ⟨r16, rfl, hm15⟩
        show Ex E MX10_count Q 115 [(0, .ref 0), (1, .int x1)] [.int r16] m15
        exact x_iret (ty := .int) rfl rfl (dk zX10_count 36 rfl) hm15
      by_cases c17 : x1 = 4
      · have hc17 := hc2t.2.2.2.2.1 c17
        refine x_tabIn (off := 90) (tgt := 104) (by rw [c17]; decide) (by rw [c17]; decide) (by rw [c17]; rfl) (by decide) (dk zX10_count 8 rfl) ?_
        refine x_aload_n 0 rfl rfl (dk zX10_count 29 rfl) ?_
        refine gf10_1 (r := 3) rfl k0 r0_1 (dk zX10_count 30 rfl) ?_
        refine x_iload_n 1 rfl rfl (dk zX10_count 31 rfl) ?_
        refine x_iconst (v := 2) (by decide) (dk zX10_count 32 rfl) ?_
        refine x_isub (dk zX10_count 33 rfl) ?_
        have b18 := hc17.1
        have hb18 := hc17.2
        refine y_aaldT (b := 115 + 2 * (x1 - 2).toNatClampNeg) k3 l3 b18 rfl (dk zX10_count 34 rfl) ?_
        refine x_callV (as := []) (o := 115 + 2 * (x1 - 2).toNatClampNeg) (ci := 8) (st := []) rfl okRX10_103 npX8_size ⟨Nat.le_of_ble_eq_true rfl, Nat.le_of_ble_eq_true rfl⟩ (sTxk b18) (by decide) rfl (Nat.le_of_ble_eq_true rfl) (dk zX10_count 35 rfl) ?_
        refine hb18.mono ?_
        rintro _ m19 ⟨r20, rfl, hm19⟩
        show Ex E MX10_count Q 115 [(0, .ref 0), (1, .int x1)] [.int r20] m19
        exact x_iret (ty := .int) rfl rfl (dk zX10_count 36 rfl) hm19
      by_cases c21 : x1 = 5
      · have hc21 := hc2t.2.2.2.2.2.1 c21
        refine x_tabIn (off := 90) (tgt := 104) (by rw [c21]; decide) (by rw [c21]; decide) (by rw [c21]; rfl) (by decide) (dk zX10_count 8 rfl) ?_
        refine x_aload_n 0 rfl rfl (dk zX10_count 29 rfl) ?_
        refine gf10_1 (r := 3) rfl k0 r0_1 (dk zX10_count 30 rfl) ?_
        refine x_iload_n 1 rfl rfl (dk zX10_count 31 rfl) ?_
        refine x_iconst (v := 2) (by decide) (dk zX10_count 32 rfl) ?_
        refine x_isub (dk zX10_count 33 rfl) ?_
        have b22 := hc21.1
        have hb22 := hc21.2
        refine y_aaldT (b := 115 + 2 * (x1 - 2).toNatClampNeg) k3 l3 b22 rfl (dk zX10_count 34 rfl) ?_
        refine x_callV (as := []) (o := 115 + 2 * (x1 - 2).toNatClampNeg) (ci := 8) (st := []) rfl okRX10_103 npX8_size ⟨Nat.le_of_ble_eq_true rfl, Nat.le_of_ble_eq_true rfl⟩ (sTxk b22) (by decide) rfl (Nat.le_of_ble_eq_true rfl) (dk zX10_count 35 rfl) ?_
        refine hb22.mono ?_
        rintro _ m23 ⟨r24, rfl, hm23⟩
        show Ex E MX10_count Q 115 [(0, .ref 0), (1, .int x1)] [.int r24] m23
        exact x_iret (ty := .int) rfl rfl (dk zX10_count 36 rfl) hm23
      by_cases c25 : x1 = 6
      · have hc25 := hc2t.2.2.2.2.2.2.1 c25
        refine x_tabIn (off := 66) (tgt := 80) (by rw [c25]; decide) (by rw [c25]; decide) (by rw [c25]; rfl) (by decide) (dk zX10_count 8 rfl) ?_
        refine x_aload_n 0 rfl rfl (dk zX10_count 17 rfl) ?_
        refine gf10_8 (r := 78) rfl k0 r0_8 (dk zX10_count 18 rfl) ?_
        refine x_callV (as := []) (o := 78) (ci := 4) (st := []) rfl okRX10_219 npX4_size ⟨Nat.le_of_ble_eq_true rfl, Nat.le_of_ble_eq_true rfl⟩ k78 (by decide) rfl (Nat.le_of_ble_eq_true rfl) (dk zX10_count 19 rfl) ?_
        refine hc25.mono ?_
        rintro _ m26 ⟨r27, rfl, hm26⟩
        show Ex E MX10_count Q 87 [(0, .ref 0), (1, .int x1)] [.int r27] m26
        exact x_iret (ty := .int) rfl rfl (dk zX10_count 20 rfl) hm26
      by_cases c28 : x1 = 7
      · have hc28 := hc2t.2.2.2.2.2.2.2.1 c28
        refine x_tabIn (off := 74) (tgt := 88) (by rw [c28]; decide) (by rw [c28]; decide) (by rw [c28]; rfl) (by decide) (dk zX10_count 8 rfl) ?_
        refine x_aload_n 0 rfl rfl (dk zX10_count 21 rfl) ?_
        refine gf10_8 (r := 78) rfl k0 r0_8 (dk zX10_count 22 rfl) ?_
        refine x_callV (as := []) (o := 78) (ci := 4) (st := []) rfl okRX10_326 npX4_goodOnes ⟨Nat.le_of_ble_eq_true rfl, Nat.le_of_ble_eq_true rfl⟩ k78 (by decide) rfl (Nat.le_of_ble_eq_true rfl) (dk zX10_count 23 rfl) ?_
        refine hc28.mono ?_
        rintro _ m29 ⟨r30, rfl, hm29⟩
        show Ex E MX10_count Q 95 [(0, .ref 0), (1, .int x1)] [.int r30] m29
        exact x_iret (ty := .int) rfl rfl (dk zX10_count 24 rfl) hm29
      by_cases c31 : x1 = 8
      · have hc31 := hc2t.2.2.2.2.2.2.2.2.1 c31
        refine x_tabIn (off := 82) (tgt := 96) (by rw [c31]; decide) (by rw [c31]; decide) (by rw [c31]; rfl) (by decide) (dk zX10_count 8 rfl) ?_
        refine x_aload_n 0 rfl rfl (dk zX10_count 25 rfl) ?_
        refine gf10_11 (r := 107) rfl k0 r0_11 (dk zX10_count 26 rfl) ?_
        refine x_callV (as := []) (o := 107) (ci := 7) (st := []) rfl okRX10_329 npX7_latestFinding ⟨Nat.le_of_ble_eq_true rfl, Nat.le_of_ble_eq_true rfl⟩ k107 (by decide) rfl (Nat.le_of_ble_eq_true rfl) (dk zX10_count 27 rfl) ?_
        refine hc31.mono ?_
        rintro _ m32 ⟨r33, rfl, hm32⟩
        show Ex E MX10_count Q 103 [(0, .ref 0), (1, .int x1)] [.int r33] m32
        exact x_iret (ty := .int) rfl rfl (dk zX10_count 28 rfl) hm32
      have hd34 := hc2t.2.2.2.2.2.2.2.2.2 c3 c6 c9 c13 c17 c21 c25 c28 c31
      refine x_tabOut (tgt := 104) (by have := lv_neT (a := 0) c3 (by decide); have := lv_neT (a := 1) c6 (by decide); have := lv_neT (a := 2) c9 (by decide); have := lv_neT (a := 3) c13 (by decide); have := lv_neT (a := 4) c17 (by decide); have := lv_neT (a := 5) c21 (by decide); have := lv_neT (a := 6) c25 (by decide); have := lv_neT (a := 7) c28 (by decide); have := lv_neT (a := 8) c31 (by decide); omega) (by decide) (dk zX10_count 8 rfl) ?_
      refine x_aload_n 0 rfl rfl (dk zX10_count 29 rfl) ?_
      refine gf10_1 (r := 3) rfl k0 r0_1 (dk zX10_count 30 rfl) ?_
      refine x_iload_n 1 rfl rfl (dk zX10_count 31 rfl) ?_
      refine x_iconst (v := 2) (by decide) (dk zX10_count 32 rfl) ?_
      refine x_isub (dk zX10_count 33 rfl) ?_
      have b35 := hd34.1
      have hb35 := hd34.2
      refine y_aaldT (b := 115 + 2 * (x1 - 2).toNatClampNeg) k3 l3 b35 rfl (dk zX10_count 34 rfl) ?_
      refine x_callV (as := []) (o := 115 + 2 * (x1 - 2).toNatClampNeg) (ci := 8) (st := []) rfl okRX10_103 npX8_size ⟨Nat.le_of_ble_eq_true rfl, Nat.le_of_ble_eq_true rfl⟩ (sTxk b35) (by decide) rfl (Nat.le_of_ble_eq_true rfl) (dk zX10_count 35 rfl) ?_
      refine hb35.mono ?_
      rintro _ m36 ⟨r37, rfl, hm36⟩
      show Ex E MX10_count Q 115 [(0, .ref 0), (1, .int x1)] [.int r37] m36
      exact x_iret (ty := .int) rfl rfl (dk zX10_count 36 rfl) hm36
    · have hc2f := hc1f.2 c2
      refine x_bipush (v := -2) (by decide) (dk zX10_count 5 rfl) ?_
      exact x_iret (ty := .int) rfl rfl (dk zX10_count 6 rfl) hc2f
set_option maxRecDepth 20000 in
set_option maxHeartbeats 2000000 in
theorem gX10_digestGate_0 {E : EV} {Q : Po} {μ : Mem} {x1 : Int64} {x3 : Int32} (h : Ex E MX10_digestGate Q 6 [(0, .ref 0), (1, .long x1), (3, .int x3), (4, .long x1), (6, .int 0)] [] μ) : Ex E MX10_digestGate Q 0 [(0, .ref 0), (1, .long x1), (3, .int x3)] [] μ := by
  refine x_lload_n 1 rfl rfl (dk zX10_digestGate 0 rfl) ?_
  refine x_lstoreG (l' := [(0, .ref 0), (1, .long x1), (3, .int x3), (4, .long x1)]) [1, 2, 3, 0] rfl (by decide) (dk zX10_digestGate 1 rfl) ?_
  refine x_iconst (v := 0) (by decide) (dk zX10_digestGate 2 rfl) ?_
  refine x_istoreG (l' := [(0, .ref 0), (1, .long x1), (3, .int x3), (4, .long x1), (6, .int 0)]) [1, 2, 3, 4, 0] rfl (by decide) (dk zX10_digestGate 3 rfl) ?_
  exact h
set_option maxRecDepth 20000 in
set_option maxHeartbeats 2000000 in
theorem gX10_digestGate_6 {E : EV} {Q : Po} {μ : Mem} {x1 : Int64} {x3 : Int32} {x4 : Int64} {x6 : Int32} (h : ((3 < x6 → Sp E MX10_without [.ref 0, .int x3, .int 0] μ (fun v m2 => ∃ r3 : Int32, v = some (.int r3) ∧ ∀ v4 : Int64, v4 = (((31)) * x4) + (Int32.toInt64 r3) → Sp E MX10_without [.ref 0, .int x3, .int 1] m2 (fun v m5 => ∃ r6 : Int32, v = some (.int r6) ∧ Q (some (.long ((((31)) * v4) + (Int32.toInt64 r6)))) m5))) ∧ (¬ 3 < x6 → Sp E MX10_gate [.ref 0, .int x3, .int x6] μ (fun v m7 => ∃ r8 : Int32, v = some (.int r8) ∧ ∀ v9 : Int64, v9 = (((31)) * x4) + (Int32.toInt64 r8) → ∀ v10 : Int32, v10 = x6 + 1 → Ex E MX10_digestGate Q 6 [(0, .ref 0), (1, .long x1), (3, .int x3), (4, .long v9), (6, .int v10)] [] m7)))) : Ex E MX10_digestGate Q 6 [(0, .ref 0), (1, .long x1), (3, .int x3), (4, .long x4), (6, .int x6)] [] μ := by
  refine x_iload 4 rfl (dk zX10_digestGate 4 rfl) ?_
  refine x_iconst (v := 3) (by decide) (dk zX10_digestGate 5 rfl) ?_
  refine x_icmp_gt (tgt := 35) (by decide) (dk zX10_digestGate 6 rfl) (fun c1 => ?_) (fun c1 => ?_)
  · have hc1t := h.1 c1
    refine x_ldc2 (v := 31) rfl wkRX10_334 (dk zX10_digestGate 19 rfl) ?_
    refine x_lload 3 rfl (dk zX10_digestGate 20 rfl) ?_
    refine x_lmul (dk zX10_digestGate 21 rfl) ?_
    refine x_aload_n 0 rfl rfl (dk zX10_digestGate 22 rfl) ?_
    refine x_iload_n 2 rfl rfl (dk zX10_digestGate 23 rfl) ?_
    refine x_iconst (v := 0) (by decide) (dk zX10_digestGate 24 rfl) ?_
    refine x_callV (as := [.int x3, .int 0]) (o := 0) (ci := 10) (st := [.long (((31)) * x4)]) rfl okRX10_367 npX10_without ⟨Nat.le_of_ble_eq_true rfl, Nat.le_of_ble_eq_true rfl⟩ k0 (by decide) rfl (Nat.le_of_ble_eq_true rfl) (dk zX10_digestGate 25 rfl) ?_
    refine hc1t.mono ?_
    rintro _ m2 ⟨r3, rfl, hm2⟩
    show Ex E MX10_digestGate Q 47 [(0, .ref 0), (1, .long x1), (3, .int x3), (4, .long x4), (6, .int x6)] [.int r3, .long (((31)) * x4)] m2
    refine x_i2l (dk zX10_digestGate 26 rfl) ?_
    refine x_ladd (dk zX10_digestGate 27 rfl) ?_
    refine x_topl (fun v4 ev4 => ?_)
    have hv4 := hm2 v4 ev4
    refine x_lstoreG (l' := [(0, .ref 0), (1, .long x1), (3, .int x3), (4, .long v4), (6, .int x6)]) [1, 2, 3, 0, 4] rfl (by decide) (dk zX10_digestGate 28 rfl) ?_
    refine x_ldc2 (v := 31) rfl wkRX10_334 (dk zX10_digestGate 29 rfl) ?_
    refine x_lload 3 rfl (dk zX10_digestGate 30 rfl) ?_
    refine x_lmul (dk zX10_digestGate 31 rfl) ?_
    refine x_aload_n 0 rfl rfl (dk zX10_digestGate 32 rfl) ?_
    refine x_iload_n 2 rfl rfl (dk zX10_digestGate 33 rfl) ?_
    refine x_iconst (v := 1) (by decide) (dk zX10_digestGate 34 rfl) ?_
    refine x_callV (as := [.int x3, .int 1]) (o := 0) (ci := 10) (st := [.long (((31)) * v4)]) rfl okRX10_367 npX10_without ⟨Nat.le_of_ble_eq_true rfl, Nat.le_of_ble_eq_true rfl⟩ k0 (by decide) rfl (Nat.le_of_ble_eq_true rfl) (dk zX10_digestGate 35 rfl) ?_
    refine hv4.mono ?_
    rintro _ m5 ⟨r6, rfl, hm5⟩
    show Ex E MX10_digestGate Q 63 [(0, .ref 0), (1, .long x1), (3, .int x3), (4, .long v4), (6, .int x6)] [.int r6, .long (((31)) * v4)] m5
    refine x_i2l (dk zX10_digestGate 36 rfl) ?_
    refine x_ladd (dk zX10_digestGate 37 rfl) ?_
    exact x_lret rfl (dk zX10_digestGate 38 rfl) hm5
  · have hc1f := h.2 c1
    refine x_ldc2 (v := 31) rfl wkRX10_334 (dk zX10_digestGate 7 rfl) ?_
    refine x_lload 3 rfl (dk zX10_digestGate 8 rfl) ?_
    refine x_lmul (dk zX10_digestGate 9 rfl) ?_
    refine x_aload_n 0 rfl rfl (dk zX10_digestGate 10 rfl) ?_
    refine x_iload_n 2 rfl rfl (dk zX10_digestGate 11 rfl) ?_
    refine x_iload 4 rfl (dk zX10_digestGate 12 rfl) ?_
    refine x_callV (as := [.int x3, .int x6]) (o := 0) (ci := 10) (st := [.long (((31)) * x4)]) rfl okRX10_364 npX10_gate ⟨Nat.le_of_ble_eq_true rfl, Nat.le_of_ble_eq_true rfl⟩ k0 (by decide) rfl (Nat.le_of_ble_eq_true rfl) (dk zX10_digestGate 13 rfl) ?_
    refine hc1f.mono ?_
    rintro _ m7 ⟨r8, rfl, hm7⟩
    show Ex E MX10_digestGate Q 25 [(0, .ref 0), (1, .long x1), (3, .int x3), (4, .long x4), (6, .int x6)] [.int r8, .long (((31)) * x4)] m7
    refine x_i2l (dk zX10_digestGate 14 rfl) ?_
    refine x_ladd (dk zX10_digestGate 15 rfl) ?_
    refine x_topl (fun v9 ev9 => ?_)
    have hv9 := hm7 v9 ev9
    refine x_lstoreG (l' := [(0, .ref 0), (1, .long x1), (3, .int x3), (4, .long v9), (6, .int x6)]) [1, 2, 3, 0, 4] rfl (by decide) (dk zX10_digestGate 16 rfl) ?_
    obtain ⟨v10, ev10⟩ : ∃ y : Int32, y = x6 + 1 := ⟨_, rfl⟩
    have hv10 := hv9 v10 ev10
    refine x_iinc (v := v10) (l' := [(0, .ref 0), (1, .long x1), (3, .int x3), (4, .long v9), (6, .int v10)]) 4 rfl (by rw [ev10]; rfl) [1, 2, 3, 4, 0] rfl (by decide) (dk zX10_digestGate 17 rfl) ?_
    refine x_goto (tgt := 6) (by decide) (dk zX10_digestGate 18 rfl) ?_
    exact hv10
set_option maxRecDepth 20000 in
set_option maxHeartbeats 2000000 in
theorem gX10_digestWay_0 {E : EV} {Q : Po} {μ : Mem} {x1 : Int64} {x3 : Int32} (h : Sp E MX10_paper [.ref 0, .int x3, .int ((-1))] μ (fun v m1 => ∃ r2 : Int32, v = some (.int r2) ∧ ∀ v3 : Int64, v3 = (((31)) * x1) + (Int32.toInt64 r2) → Ex E MX10_digestWay Q 22 [(0, .ref 0), (1, .long x1), (3, .int x3), (4, .int r2), (5, .long v3), (7, .int 0)] [] m1)) : Ex E MX10_digestWay Q 0 [(0, .ref 0), (1, .long x1), (3, .int x3)] [] μ := by
  refine x_aload_n 0 rfl rfl (dk zX10_digestWay 0 rfl) ?_
  refine x_iload_n 2 rfl rfl (dk zX10_digestWay 1 rfl) ?_
  refine x_iconst (v := -1) (by decide) (dk zX10_digestWay 2 rfl) ?_
  refine x_callV (as := [.int x3, .int ((-1))]) (o := 0) (ci := 10) (st := []) rfl okRX10_370 npX10_paper ⟨Nat.le_of_ble_eq_true rfl, Nat.le_of_ble_eq_true rfl⟩ k0 (by decide) rfl (Nat.le_of_ble_eq_true rfl) (dk zX10_digestWay 3 rfl) ?_
  refine h.mono ?_
  rintro _ m1 ⟨r2, rfl, hm1⟩
  show Ex E MX10_digestWay Q 6 [(0, .ref 0), (1, .long x1), (3, .int x3)] [.int r2] m1
  refine x_istoreG (l' := [(0, .ref 0), (1, .long x1), (3, .int x3), (4, .int r2)]) [1, 2, 3, 0] rfl (by decide) (dk zX10_digestWay 4 rfl) ?_
  refine x_ldc2 (v := 31) rfl wkRX10_334 (dk zX10_digestWay 5 rfl) ?_
  refine x_lload_n 1 rfl rfl (dk zX10_digestWay 6 rfl) ?_
  refine x_lmul (dk zX10_digestWay 7 rfl) ?_
  refine x_iload 3 rfl (dk zX10_digestWay 8 rfl) ?_
  refine x_i2l (dk zX10_digestWay 9 rfl) ?_
  refine x_ladd (dk zX10_digestWay 10 rfl) ?_
  refine x_topl (fun v3 ev3 => ?_)
  have hv3 := hm1 v3 ev3
  refine x_lstoreG (l' := [(0, .ref 0), (1, .long x1), (3, .int x3), (4, .int r2), (5, .long v3)]) [1, 2, 3, 4, 0] rfl (by decide) (dk zX10_digestWay 11 rfl) ?_
  refine x_iconst (v := 0) (by decide) (dk zX10_digestWay 12 rfl) ?_
  refine x_istoreG (l' := [(0, .ref 0), (1, .long x1), (3, .int x3), (4, .int r2), (5, .long v3), (7, .int 0)]) [1, 2, 3, 4, 5, 0] rfl (by decide) (dk zX10_digestWay 13 rfl) ?_
  exact hv3
set_option maxRecDepth 20000 in
set_option maxHeartbeats 2000000 in
theorem gX10_digestWay_22 {E : EV} {Q : Po} {μ : Mem} {x1 : Int64} {x3 : Int32} {x4 : Int32} {x5 : Int64} {x7 : Int32} (h : ((x4 ≤ x7 → Ex E MX10_digestWay Q 55 [(0, .ref 0), (1, .long x1), (3, .int x3), (4, .int x4), (5, .long x5), (7, .int 0)] [] μ) ∧ (¬ x4 ≤ x7 → Sp E MX10_paper [.ref 0, .int x3, .int x7] μ (fun v m2 => ∃ r3 : Int32, v = some (.int r3) ∧ ∀ v4 : Int64, v4 = (((31)) * x5) + (Int32.toInt64 r3) → ∀ v5 : Int32, v5 = x7 + 1 → Ex E MX10_digestWay Q 22 [(0, .ref 0), (1, .long x1), (3, .int x3), (4, .int x4), (5, .long v4), (7, .int v5)] [] m2)))) : Ex E MX10_digestWay Q 22 [(0, .ref 0), (1, .long x1), (3, .int x3), (4, .int x4), (5, .long x5), (7, .int x7)] [] μ := by
  refine x_iload 5 rfl (dk zX10_digestWay 14 rfl) ?_
  refine x_iload 3 rfl (dk zX10_digestWay 15 rfl) ?_
  refine x_icmp_ge (tgt := 52) (by decide) (dk zX10_digestWay 16 rfl) (fun c1 => ?_) (fun c1 => ?_)
  · have hc1t := h.1 c1
    refine x_iconst (v := 0) (by decide) (dk zX10_digestWay 29 rfl) ?_
    refine x_istoreG (l' := [(0, .ref 0), (1, .long x1), (3, .int x3), (4, .int x4), (5, .long x5), (7, .int 0)]) [1, 2, 3, 4, 5, 0] rfl (by decide) (dk zX10_digestWay 30 rfl) ?_
    exact hc1t
  · have hc1f := h.2 c1
    refine x_ldc2 (v := 31) rfl wkRX10_334 (dk zX10_digestWay 17 rfl) ?_
    refine x_lload 4 rfl (dk zX10_digestWay 18 rfl) ?_
    refine x_lmul (dk zX10_digestWay 19 rfl) ?_
    refine x_aload_n 0 rfl rfl (dk zX10_digestWay 20 rfl) ?_
    refine x_iload_n 2 rfl rfl (dk zX10_digestWay 21 rfl) ?_
    refine x_iload 5 rfl (dk zX10_digestWay 22 rfl) ?_
    refine x_callV (as := [.int x3, .int x7]) (o := 0) (ci := 10) (st := [.long (((31)) * x5)]) rfl okRX10_370 npX10_paper ⟨Nat.le_of_ble_eq_true rfl, Nat.le_of_ble_eq_true rfl⟩ k0 (by decide) rfl (Nat.le_of_ble_eq_true rfl) (dk zX10_digestWay 23 rfl) ?_
    refine hc1f.mono ?_
    rintro _ m2 ⟨r3, rfl, hm2⟩
    show Ex E MX10_digestWay Q 42 [(0, .ref 0), (1, .long x1), (3, .int x3), (4, .int x4), (5, .long x5), (7, .int x7)] [.int r3, .long (((31)) * x5)] m2
    refine x_i2l (dk zX10_digestWay 24 rfl) ?_
    refine x_ladd (dk zX10_digestWay 25 rfl) ?_
    refine x_topl (fun v4 ev4 => ?_)
    have hv4 := hm2 v4 ev4
    refine x_lstoreG (l' := [(0, .ref 0), (1, .long x1), (3, .int x3), (4, .int x4), (5, .long v4), (7, .int x7)]) [1, 2, 3, 4, 0, 5] rfl (by decide) (dk zX10_digestWay 26 rfl) ?_
    obtain ⟨v5, ev5⟩ : ∃ y : Int32, y = x7 + 1 := ⟨_, rfl⟩
    have hv5 := hv4 v5 ev5
    refine x_iinc (v := v5) (l' := [(0, .ref 0), (1, .long x1), (3, .int x3), (4, .int x4), (5, .long v4), (7, .int v5)]) 5 rfl (by rw [ev5]; rfl) [1, 2, 3, 4, 5, 0] rfl (by decide) (dk zX10_digestWay 27 rfl) ?_
    refine x_goto (tgt := 22) (by decide) (dk zX10_digestWay 28 rfl) ?_
    exact hv5
set_option maxRecDepth 20000 in
set_option maxHeartbeats 2000000 in
theorem gX10_digestWay_55 {E : EV} {Q : Po} {μ : Mem} {x1 : Int64} {x3 : Int32} {x4 : Int32} {x5 : Int64} {x7 : Int32} (h : ((4 < x7 → Sp E MX10_found [.ref 0, .int x3, .int 0] μ (fun v m2 => ∃ r3 : Int32, v = some (.int r3) ∧ ∀ v4 : Int64, v4 = (((31)) * x5) + (Int32.toInt64 r3) → Sp E MX10_found [.ref 0, .int x3, .int 1] m2 (fun v m5 => ∃ r6 : Int32, v = some (.int r6) ∧ ∀ v7 : Int64, v7 = (((31)) * v4) + (Int32.toInt64 r6) → Sp E MX10_judged [.ref 0, .int x3, .int 0, .int 0, .int 1] m5 (fun v m8 => ∃ r9 : Int32, v = some (.int r9) ∧ Sp E MX10_shortest [.ref 0, .int 0, .int 0, .int r9, .int x3, .int 0] m8 (fun v m10 => ∃ r11 : Int64, v = some (.long r11) ∧ ∀ v12 : Int64, v12 = (((31)) * v7) + r11 → Sp E MX10_shortest [.ref 0, .int 0, .int 0, .int r9, .int x3, .int 1] m10 (fun v m13 => ∃ r14 : Int64, v = some (.long r14) ∧ ∀ v15 : Int64, v15 = (((31)) * v12) + r14 → Sp E MX10_many [.ref 0, .int 0, .int x3, .int r9, .int 6] m13 (fun v m16 => ∃ r17 : Int64, v = some (.long r17) ∧ Q (some (.long ((((31)) * v15) + r17))) m16))))))) ∧ (¬ 4 < x7 → Sp E MX10_judged [.ref 0, .int x3, .int 0, .int 0, .int x7] μ (fun v m18 => ∃ r19 : Int32, v = some (.int r19) ∧ ∀ v20 : Int64, v20 = (((31)) * x5) + (Int32.toInt64 r19) → ∀ v21 : Int32, v21 = x7 + 1 → Ex E MX10_digestWay Q 55 [(0, .ref 0), (1, .long x1), (3, .int x3), (4, .int x4), (5, .long v20), (7, .int v21)] [] m18)))) : Ex E MX10_digestWay Q 55 [(0, .ref 0), (1, .long x1), (3, .int x3), (4, .int x4), (5, .long x5), (7, .int x7)] [] μ := by
  refine x_iload 5 rfl (dk zX10_digestWay 31 rfl) ?_
  refine x_iconst (v := 4) (by decide) (dk zX10_digestWay 32 rfl) ?_
  refine x_icmp_gt (tgt := 86) (by decide) (dk zX10_digestWay 33 rfl) (fun c1 => ?_) (fun c1 => ?_)
  · have hc1t := h.1 c1
    refine x_ldc2 (v := 31) rfl wkRX10_334 (dk zX10_digestWay 48 rfl) ?_
    refine x_lload 4 rfl (dk zX10_digestWay 49 rfl) ?_
    refine x_lmul (dk zX10_digestWay 50 rfl) ?_
    refine x_aload_n 0 rfl rfl (dk zX10_digestWay 51 rfl) ?_
    refine x_iload_n 2 rfl rfl (dk zX10_digestWay 52 rfl) ?_
    refine x_iconst (v := 0) (by decide) (dk zX10_digestWay 53 rfl) ?_
    refine x_callV (as := [.int x3, .int 0]) (o := 0) (ci := 10) (st := [.long (((31)) * x5)]) rfl okRX10_376 npX10_found ⟨Nat.le_of_ble_eq_true rfl, Nat.le_of_ble_eq_true rfl⟩ k0 (by decide) rfl (Nat.le_of_ble_eq_true rfl) (dk zX10_digestWay 54 rfl) ?_
    refine hc1t.mono ?_
    rintro _ m2 ⟨r3, rfl, hm2⟩
    show Ex E MX10_digestWay Q 98 [(0, .ref 0), (1, .long x1), (3, .int x3), (4, .int x4), (5, .long x5), (7, .int x7)] [.int r3, .long (((31)) * x5)] m2
    refine x_i2l (dk zX10_digestWay 55 rfl) ?_
    refine x_ladd (dk zX10_digestWay 56 rfl) ?_
    refine x_topl (fun v4 ev4 => ?_)
    have hv4 := hm2 v4 ev4
    refine x_lstoreG (l' := [(0, .ref 0), (1, .long x1), (3, .int x3), (4, .int x4), (5, .long v4), (7, .int x7)]) [1, 2, 3, 4, 0, 5] rfl (by decide) (dk zX10_digestWay 57 rfl) ?_
    refine x_ldc2 (v := 31) rfl wkRX10_334 (dk zX10_digestWay 58 rfl) ?_
    refine x_lload 4 rfl (dk zX10_digestWay 59 rfl) ?_
    refine x_lmul (dk zX10_digestWay 60 rfl) ?_
    refine x_aload_n 0 rfl rfl (dk zX10_digestWay 61 rfl) ?_
    refine x_iload_n 2 rfl rfl (dk zX10_digestWay 62 rfl) ?_
    refine x_iconst (v := 1) (by decide) (dk zX10_digestWay 63 rfl) ?_
    refine x_callV (as := [.int x3, .int 1]) (o := 0) (ci := 10) (st := [.long (((31)) * v4)]) rfl okRX10_376 npX10_found ⟨Nat.le_of_ble_eq_true rfl, Nat.le_of_ble_eq_true rfl⟩ k0 (by decide) rfl (Nat.le_of_ble_eq_true rfl) (dk zX10_digestWay 64 rfl) ?_
    refine hv4.mono ?_
    rintro _ m5 ⟨r6, rfl, hm5⟩
    show Ex E MX10_digestWay Q 114 [(0, .ref 0), (1, .long x1), (3, .int x3), (4, .int x4), (5, .long v4), (7, .int x7)] [.int r6, .long (((31)) * v4)] m5
    refine x_i2l (dk zX10_digestWay 65 rfl) ?_
    refine x_ladd (dk zX10_digestWay 66 rfl) ?_
    refine x_topl (fun v7 ev7 => ?_)
    have hv7 := hm5 v7 ev7
    refine x_lstoreG (l' := [(0, .ref 0), (1, .long x1), (3, .int x3), (4, .int x4), (5, .long v7), (7, .int x7)]) [1, 2, 3, 4, 0, 5] rfl (by decide) (dk zX10_digestWay 67 rfl) ?_
    refine x_aload_n 0 rfl rfl (dk zX10_digestWay 68 rfl) ?_
    refine x_iload_n 2 rfl rfl (dk zX10_digestWay 69 rfl) ?_
    refine x_iconst (v := 0) (by decide) (dk zX10_digestWay 70 rfl) ?_
    refine x_iconst (v := 0) (by decide) (dk zX10_digestWay 71 rfl) ?_
    refine x_iconst (v := 1) (by decide) (dk zX10_digestWay 72 rfl) ?_
    refine x_callV (as := [.int x3, .int 0, .int 0, .int 1]) (o := 0) (ci := 10) (st := []) rfl okRX10_373 npX10_judged ⟨Nat.le_of_ble_eq_true rfl, Nat.le_of_ble_eq_true rfl⟩ k0 (by decide) rfl (Nat.le_of_ble_eq_true rfl) (dk zX10_digestWay 73 rfl) ?_
    refine hv7.mono ?_
    rintro _ m8 ⟨r9, rfl, hm8⟩
    show Ex E MX10_digestWay Q 126 [(0, .ref 0), (1, .long x1), (3, .int x3), (4, .int x4), (5, .long v7), (7, .int x7)] [.int r9] m8
    refine x_istoreG (l' := [(0, .ref 0), (1, .long x1), (3, .int x3), (4, .int x4), (5, .long v7), (7, .int r9)]) [1, 2, 3, 4, 5, 0] rfl (by decide) (dk zX10_digestWay 74 rfl) ?_
    refine x_ldc2 (v := 31) rfl wkRX10_334 (dk zX10_digestWay 75 rfl) ?_
    refine x_lload 4 rfl (dk zX10_digestWay 76 rfl) ?_
    refine x_lmul (dk zX10_digestWay 77 rfl) ?_
    refine x_aload_n 0 rfl rfl (dk zX10_digestWay 78 rfl) ?_
    refine x_iconst (v := 0) (by decide) (dk zX10_digestWay 79 rfl) ?_
    refine x_iconst (v := 0) (by decide) (dk zX10_digestWay 80 rfl) ?_
    refine x_iload 5 rfl (dk zX10_digestWay 81 rfl) ?_
    refine x_iload_n 2 rfl rfl (dk zX10_digestWay 82 rfl) ?_
    refine x_iconst (v := 0) (by decide) (dk zX10_digestWay 83 rfl) ?_
    refine x_callV (as := [.int 0, .int 0, .int r9, .int x3, .int 0]) (o := 0) (ci := 10) (st := [.long (((31)) * v7)]) rfl okRX10_379 npX10_shortest ⟨Nat.le_of_ble_eq_true rfl, Nat.le_of_ble_eq_true rfl⟩ k0 (by decide) rfl (Nat.le_of_ble_eq_true rfl) (dk zX10_digestWay 84 rfl) ?_
    refine hm8.mono ?_
    rintro _ m10 ⟨r11, rfl, hm10⟩
    show Ex E MX10_digestWay Q 144 [(0, .ref 0), (1, .long x1), (3, .int x3), (4, .int x4), (5, .long v7), (7, .int r9)] [.long r11, .long (((31)) * v7)] m10
    refine x_ladd (dk zX10_digestWay 85 rfl) ?_
    refine x_topl (fun v12 ev12 => ?_)
    have hv12 := hm10 v12 ev12
    refine x_lstoreG (l' := [(0, .ref 0), (1, .long x1), (3, .int x3), (4, .int x4), (5, .long v12), (7, .int r9)]) [1, 2, 3, 4, 0, 5] rfl (by decide) (dk zX10_digestWay 86 rfl) ?_
    refine x_ldc2 (v := 31) rfl wkRX10_334 (dk zX10_digestWay 87 rfl) ?_
    refine x_lload 4 rfl (dk zX10_digestWay 88 rfl) ?_
    refine x_lmul (dk zX10_digestWay 89 rfl) ?_
    refine x_aload_n 0 rfl rfl (dk zX10_digestWay 90 rfl) ?_
    refine x_iconst (v := 0) (by decide) (dk zX10_digestWay 91 rfl) ?_
    refine x_iconst (v := 0) (by decide) (dk zX10_digestWay 92 rfl) ?_
    refine x_iload 5 rfl (dk zX10_digestWay 93 rfl) ?_
    refine x_iload_n 2 rfl rfl (dk zX10_digestWay 94 rfl) ?_
    refine x_iconst (v := 1) (by decide) (dk zX10_digestWay 95 rfl) ?_
    refine x_callV (as := [.int 0, .int 0, .int r9, .int x3, .int 1]) (o := 0) (ci := 10) (st := [.long (((31)) * v12)]) rfl okRX10_379 npX10_shortest ⟨Nat.le_of_ble_eq_true rfl, Nat.le_of_ble_eq_true rfl⟩ k0 (by decide) rfl (Nat.le_of_ble_eq_true rfl) (dk zX10_digestWay 96 rfl) ?_
    refine hv12.mono ?_
    rintro _ m13 ⟨r14, rfl, hm13⟩
    show Ex E MX10_digestWay Q 163 [(0, .ref 0), (1, .long x1), (3, .int x3), (4, .int x4), (5, .long v12), (7, .int r9)] [.long r14, .long (((31)) * v12)] m13
    refine x_ladd (dk zX10_digestWay 97 rfl) ?_
    refine x_topl (fun v15 ev15 => ?_)
    have hv15 := hm13 v15 ev15
    refine x_lstoreG (l' := [(0, .ref 0), (1, .long x1), (3, .int x3), (4, .int x4), (5, .long v15), (7, .int r9)]) [1, 2, 3, 4, 0, 5] rfl (by decide) (dk zX10_digestWay 98 rfl) ?_
    refine x_ldc2 (v := 31) rfl wkRX10_334 (dk zX10_digestWay 99 rfl) ?_
    refine x_lload 4 rfl (dk zX10_digestWay 100 rfl) ?_
    refine x_lmul (dk zX10_digestWay 101 rfl) ?_
    refine x_aload_n 0 rfl rfl (dk zX10_digestWay 102 rfl) ?_
    refine x_iconst (v := 0) (by decide) (dk zX10_digestWay 103 rfl) ?_
    refine x_iload_n 2 rfl rfl (dk zX10_digestWay 104 rfl) ?_
    refine x_iload 5 rfl (dk zX10_digestWay 105 rfl) ?_
    refine x_bipush (v := 6) (by decide) (dk zX10_digestWay 106 rfl) ?_
    refine x_callV (as := [.int 0, .int x3, .int r9, .int 6]) (o := 0) (ci := 10) (st := [.long (((31)) * v15)]) rfl okRX10_383 npX10_many ⟨Nat.le_of_ble_eq_true rfl, Nat.le_of_ble_eq_true rfl⟩ k0 (by decide) rfl (Nat.le_of_ble_eq_true rfl) (dk zX10_digestWay 107 rfl) ?_
    refine hv15.mono ?_
    rintro _ m16 ⟨r17, rfl, hm16⟩
    show Ex E MX10_digestWay Q 182 [(0, .ref 0), (1, .long x1), (3, .int x3), (4, .int x4), (5, .long v15), (7, .int r9)] [.long r17, .long (((31)) * v15)] m16
    refine x_ladd (dk zX10_digestWay 108 rfl) ?_
    exact x_lret rfl (dk zX10_digestWay 109 rfl) hm16
  · have hc1f := h.2 c1
    refine x_ldc2 (v := 31) rfl wkRX10_334 (dk zX10_digestWay 34 rfl) ?_
    refine x_lload 4 rfl (dk zX10_digestWay 35 rfl) ?_
    refine x_lmul (dk zX10_digestWay 36 rfl) ?_
    refine x_aload_n 0 rfl rfl (dk zX10_digestWay 37 rfl) ?_
    refine x_iload_n 2 rfl rfl (dk zX10_digestWay 38 rfl) ?_
    refine x_iconst (v := 0) (by decide) (dk zX10_digestWay 39 rfl) ?_
    refine x_iconst (v := 0) (by decide) (dk zX10_digestWay 40 rfl) ?_
    refine x_iload 5 rfl (dk zX10_digestWay 41 rfl) ?_
    refine x_callV (as := [.int x3, .int 0, .int 0, .int x7]) (o := 0) (ci := 10) (st := [.long (((31)) * x5)]) rfl okRX10_373 npX10_judged ⟨Nat.le_of_ble_eq_true rfl, Nat.le_of_ble_eq_true rfl⟩ k0 (by decide) rfl (Nat.le_of_ble_eq_true rfl) (dk zX10_digestWay 42 rfl) ?_
    refine hc1f.mono ?_
    rintro _ m18 ⟨r19, rfl, hm18⟩
    show Ex E MX10_digestWay Q 76 [(0, .ref 0), (1, .long x1), (3, .int x3), (4, .int x4), (5, .long x5), (7, .int x7)] [.int r19, .long (((31)) * x5)] m18
    refine x_i2l (dk zX10_digestWay 43 rfl) ?_
    refine x_ladd (dk zX10_digestWay 44 rfl) ?_
    refine x_topl (fun v20 ev20 => ?_)
    have hv20 := hm18 v20 ev20
    refine x_lstoreG (l' := [(0, .ref 0), (1, .long x1), (3, .int x3), (4, .int x4), (5, .long v20), (7, .int x7)]) [1, 2, 3, 4, 0, 5] rfl (by decide) (dk zX10_digestWay 45 rfl) ?_
    obtain ⟨v21, ev21⟩ : ∃ y : Int32, y = x7 + 1 := ⟨_, rfl⟩
    have hv21 := hv20 v21 ev21
    refine x_iinc (v := v21) (l' := [(0, .ref 0), (1, .long x1), (3, .int x3), (4, .int x4), (5, .long v20), (7, .int v21)]) 5 rfl (by rw [ev21]; rfl) [1, 2, 3, 4, 5, 0] rfl (by decide) (dk zX10_digestWay 46 rfl) ?_
    refine x_goto (tgt := 55) (by decide) (dk zX10_digestWay 47 rfl) ?_
    exact hv21
set_option maxRecDepth 20000 in
set_option maxHeartbeats 2000000 in
theorem gX10_digestTown_0 {E : EV} {Q : Po} {μ : Mem} {x1 : Int64} {x3 : Int32} (h : Sp E MX10_clean [.ref 0, .int x3] μ (fun v m1 => ∃ r2 : Int32, v = some (.int r2) ∧ ∀ v3 : Int64, v3 = (((31)) * x1) + (Int32.toInt64 r2) → Sp E MX10_far [.ref 0, .int 0, .int x3] m1 (fun v m4 => ∃ r5 : Int32, v = some (.int r5) ∧ ∀ v6 : Int64, v6 = (((31)) * v3) + (Int32.toInt64 r5) → Sp E MX10_errands [.ref 0, .int 0, .int (1 <<< ((x3 : Int32) &&& 31)), .int 0] m4 (fun v m7 => ∃ r8 : Int32, v = some (.int r8) ∧ ∀ v9 : Int64, v9 = (((31)) * v6) + (Int32.toInt64 r8) → Sp E MX10_errands [.ref 0, .int 0, .int (1 <<< ((x3 : Int32) &&& 31)), .int 1] m7 (fun v m10 => ∃ r11 : Int32, v = some (.int r11) ∧ Q (some (.long ((((31)) * v9) + (Int32.toInt64 r11)))) m10))))) : Ex E MX10_digestTown Q 0 [(0, .ref 0), (1, .long x1), (3, .int x3)] [] μ := by
  refine x_ldc2 (v := 31) rfl wkRX10_334 (dk zX10_digestTown 0 rfl) ?_
  refine x_lload_n 1 rfl rfl (dk zX10_digestTown 1 rfl) ?_
  refine x_lmul (dk zX10_digestTown 2 rfl) ?_
  refine x_aload_n 0 rfl rfl (dk zX10_digestTown 3 rfl) ?_
  refine x_iload_n 2 rfl rfl (dk zX10_digestTown 4 rfl) ?_
  refine x_callV (as := [.int x3]) (o := 0) (ci := 10) (st := [.long (((31)) * x1)]) rfl okRX10_387 npX10_clean ⟨Nat.le_of_ble_eq_true rfl, Nat.le_of_ble_eq_true rfl⟩ k0 (by decide) rfl (Nat.le_of_ble_eq_true rfl) (dk zX10_digestTown 5 rfl) ?_
  refine h.mono ?_
  rintro _ m1 ⟨r2, rfl, hm1⟩
  show Ex E MX10_digestTown Q 10 [(0, .ref 0), (1, .long x1), (3, .int x3)] [.int r2, .long (((31)) * x1)] m1
  refine x_i2l (dk zX10_digestTown 6 rfl) ?_
  refine x_ladd (dk zX10_digestTown 7 rfl) ?_
  refine x_topl (fun v3 ev3 => ?_)
  have hv3 := hm1 v3 ev3
  refine x_lstoreG (l' := [(0, .ref 0), (1, .long x1), (3, .int x3), (4, .long v3)]) [1, 2, 3, 0] rfl (by decide) (dk zX10_digestTown 8 rfl) ?_
  refine x_ldc2 (v := 31) rfl wkRX10_334 (dk zX10_digestTown 9 rfl) ?_
  refine x_lload 3 rfl (dk zX10_digestTown 10 rfl) ?_
  refine x_lmul (dk zX10_digestTown 11 rfl) ?_
  refine x_aload_n 0 rfl rfl (dk zX10_digestTown 12 rfl) ?_
  refine x_iconst (v := 0) (by decide) (dk zX10_digestTown 13 rfl) ?_
  refine x_iload_n 2 rfl rfl (dk zX10_digestTown 14 rfl) ?_
  refine x_callV (as := [.int 0, .int x3]) (o := 0) (ci := 10) (st := [.long (((31)) * v3)]) rfl okRX10_390 npX10_far ⟨Nat.le_of_ble_eq_true rfl, Nat.le_of_ble_eq_true rfl⟩ k0 (by decide) rfl (Nat.le_of_ble_eq_true rfl) (dk zX10_digestTown 15 rfl) ?_
  refine hv3.mono ?_
  rintro _ m4 ⟨r5, rfl, hm4⟩
  show Ex E MX10_digestTown Q 26 [(0, .ref 0), (1, .long x1), (3, .int x3), (4, .long v3)] [.int r5, .long (((31)) * v3)] m4
  refine x_i2l (dk zX10_digestTown 16 rfl) ?_
  refine x_ladd (dk zX10_digestTown 17 rfl) ?_
  refine x_topl (fun v6 ev6 => ?_)
  have hv6 := hm4 v6 ev6
  refine x_lstoreG (l' := [(0, .ref 0), (1, .long x1), (3, .int x3), (4, .long v6)]) [1, 2, 3, 0] rfl (by decide) (dk zX10_digestTown 18 rfl) ?_
  refine x_ldc2 (v := 31) rfl wkRX10_334 (dk zX10_digestTown 19 rfl) ?_
  refine x_lload 3 rfl (dk zX10_digestTown 20 rfl) ?_
  refine x_lmul (dk zX10_digestTown 21 rfl) ?_
  refine x_aload_n 0 rfl rfl (dk zX10_digestTown 22 rfl) ?_
  refine x_iconst (v := 0) (by decide) (dk zX10_digestTown 23 rfl) ?_
  refine x_iconst (v := 1) (by decide) (dk zX10_digestTown 24 rfl) ?_
  refine x_iload_n 2 rfl rfl (dk zX10_digestTown 25 rfl) ?_
  refine x_ishl (dk zX10_digestTown 26 rfl) ?_
  refine x_iconst (v := 0) (by decide) (dk zX10_digestTown 27 rfl) ?_
  refine x_callV (as := [.int 0, .int (1 <<< ((x3 : Int32) &&& 31)), .int 0]) (o := 0) (ci := 10) (st := [.long (((31)) * v6)]) rfl okRX10_393 npX10_errands ⟨Nat.le_of_ble_eq_true rfl, Nat.le_of_ble_eq_true rfl⟩ k0 (by decide) rfl (Nat.le_of_ble_eq_true rfl) (dk zX10_digestTown 28 rfl) ?_
  refine hv6.mono ?_
  rintro _ m7 ⟨r8, rfl, hm7⟩
  show Ex E MX10_digestTown Q 45 [(0, .ref 0), (1, .long x1), (3, .int x3), (4, .long v6)] [.int r8, .long (((31)) * v6)] m7
  refine x_i2l (dk zX10_digestTown 29 rfl) ?_
  refine x_ladd (dk zX10_digestTown 30 rfl) ?_
  refine x_topl (fun v9 ev9 => ?_)
  have hv9 := hm7 v9 ev9
  refine x_lstoreG (l' := [(0, .ref 0), (1, .long x1), (3, .int x3), (4, .long v9)]) [1, 2, 3, 0] rfl (by decide) (dk zX10_digestTown 31 rfl) ?_
  refine x_ldc2 (v := 31) rfl wkRX10_334 (dk zX10_digestTown 32 rfl) ?_
  refine x_lload 3 rfl (dk zX10_digestTown 33 rfl) ?_
  refine x_lmul (dk zX10_digestTown 34 rfl) ?_
  refine x_aload_n 0 rfl rfl (dk zX10_digestTown 35 rfl) ?_
  refine x_iconst (v := 0) (by decide) (dk zX10_digestTown 36 rfl) ?_
  refine x_iconst (v := 1) (by decide) (dk zX10_digestTown 37 rfl) ?_
  refine x_iload_n 2 rfl rfl (dk zX10_digestTown 38 rfl) ?_
  refine x_ishl (dk zX10_digestTown 39 rfl) ?_
  refine x_iconst (v := 1) (by decide) (dk zX10_digestTown 40 rfl) ?_
  refine x_callV (as := [.int 0, .int (1 <<< ((x3 : Int32) &&& 31)), .int 1]) (o := 0) (ci := 10) (st := [.long (((31)) * v9)]) rfl okRX10_393 npX10_errands ⟨Nat.le_of_ble_eq_true rfl, Nat.le_of_ble_eq_true rfl⟩ k0 (by decide) rfl (Nat.le_of_ble_eq_true rfl) (dk zX10_digestTown 41 rfl) ?_
  refine hv9.mono ?_
  rintro _ m10 ⟨r11, rfl, hm10⟩
  show Ex E MX10_digestTown Q 64 [(0, .ref 0), (1, .long x1), (3, .int x3), (4, .long v9)] [.int r11, .long (((31)) * v9)] m10
  refine x_i2l (dk zX10_digestTown 42 rfl) ?_
  refine x_ladd (dk zX10_digestTown 43 rfl) ?_
  exact x_lret rfl (dk zX10_digestTown 44 rfl) hm10
set_option maxRecDepth 20000 in
set_option maxHeartbeats 2000000 in
theorem gX10_digest_0 {E : EV} {Q : Po} {μ : Mem}  (h : Ex E MX10_digest Q 6 [(0, .ref 0), (1, .long ((17))), (3, .int 0)] [] μ) : Ex E MX10_digest Q 0 [(0, .ref 0)] [] μ := by
  refine x_ldc2 (v := 17) rfl wkRX10_332 (dk zX10_digest 0 rfl) ?_
  refine x_lstore_n (k := 1) (l' := [(0, .ref 0), (1, .long ((17)))]) [1, 0] rfl rfl (by decide) (dk zX10_digest 1 rfl) ?_
  refine x_iconst (v := 0) (by decide) (dk zX10_digest 2 rfl) ?_
  refine x_istore_n (k := 3) (l' := [(0, .ref 0), (1, .long ((17))), (3, .int 0)]) [1, 2, 0] rfl rfl (by decide) (dk zX10_digest 3 rfl) ?_
  exact h
set_option maxRecDepth 20000 in
set_option maxHeartbeats 2000000 in
theorem gX10_digest_6 {E : EV} {Q : Po} {μ : Mem} {x1 : Int64} {x3 : Int32} (h : ((7 < x3 → Ex E MX10_digest Q 33 [(0, .ref 0), (1, .long x1), (3, .int 0)] [] μ) ∧ (¬ 7 < x3 → Sp E MX10_count [.ref 0, .int x3] μ (fun v m2 => ∃ r3 : Int32, v = some (.int r3) ∧ ∀ v4 : Int64, v4 = (((31)) * x1) + (Int32.toInt64 r3) → ∀ v5 : Int32, v5 = x3 + 1 → Ex E MX10_digest Q 6 [(0, .ref 0), (1, .long v4), (3, .int v5)] [] m2)))) : Ex E MX10_digest Q 6 [(0, .ref 0), (1, .long x1), (3, .int x3)] [] μ := by
  refine x_iload_n 2 rfl rfl (dk zX10_digest 4 rfl) ?_
  refine x_bipush (v := 7) (by decide) (dk zX10_digest 5 rfl) ?_
  refine x_icmp_gt (tgt := 31) (by decide) (dk zX10_digest 6 rfl) (fun c1 => ?_) (fun c1 => ?_)
  · have hc1t := h.1 c1
    refine x_iconst (v := 0) (by decide) (dk zX10_digest 18 rfl) ?_
    refine x_istore_n (k := 3) (l' := [(0, .ref 0), (1, .long x1), (3, .int 0)]) [1, 2, 0] rfl rfl (by decide) (dk zX10_digest 19 rfl) ?_
    exact hc1t
  · have hc1f := h.2 c1
    refine x_ldc2 (v := 31) rfl wkRX10_334 (dk zX10_digest 7 rfl) ?_
    refine x_lload_n 1 rfl rfl (dk zX10_digest 8 rfl) ?_
    refine x_lmul (dk zX10_digest 9 rfl) ?_
    refine x_aload_n 0 rfl rfl (dk zX10_digest 10 rfl) ?_
    refine x_iload_n 2 rfl rfl (dk zX10_digest 11 rfl) ?_
    refine x_callV (as := [.int x3]) (o := 0) (ci := 10) (st := [.long (((31)) * x1)]) rfl okRX10_336 npX10_count ⟨Nat.le_of_ble_eq_true rfl, Nat.le_of_ble_eq_true rfl⟩ k0 (by decide) rfl (Nat.le_of_ble_eq_true rfl) (dk zX10_digest 12 rfl) ?_
    refine hc1f.mono ?_
    rintro _ m2 ⟨r3, rfl, hm2⟩
    show Ex E MX10_digest Q 22 [(0, .ref 0), (1, .long x1), (3, .int x3)] [.int r3, .long (((31)) * x1)] m2
    refine x_i2l (dk zX10_digest 13 rfl) ?_
    refine x_ladd (dk zX10_digest 14 rfl) ?_
    refine x_topl (fun v4 ev4 => ?_)
    have hv4 := hm2 v4 ev4
    refine x_lstore_n (k := 1) (l' := [(0, .ref 0), (1, .long v4), (3, .int x3)]) [1, 0, 2] rfl rfl (by decide) (dk zX10_digest 15 rfl) ?_
    obtain ⟨v5, ev5⟩ : ∃ y : Int32, y = x3 + 1 := ⟨_, rfl⟩
    have hv5 := hv4 v5 ev5
    refine x_iinc (v := v5) (l' := [(0, .ref 0), (1, .long v4), (3, .int v5)]) 2 rfl (by rw [ev5]; rfl) [1, 2, 0] rfl (by decide) (dk zX10_digest 16 rfl) ?_
    refine x_goto (tgt := 6) (by decide) (dk zX10_digest 17 rfl) ?_
    exact hv5
set_option maxRecDepth 20000 in
set_option maxHeartbeats 2000000 in
theorem gX10_digest_33 {E : EV} {Q : Po} {μ : Mem} {x1 : Int64} {x3 : Int32} (h : ((4 ≤ x3 → Sp E MX10_room [.ref 0] μ (fun v m2 => ∃ r3 : Int32, v = some (.int r3) ∧ ∀ v4 : Int64, v4 = (((31)) * x1) + (Int32.toInt64 r3) → Ex E MX10_digest Q 71 [(0, .ref 0), (1, .long v4), (3, .int 0)] [] m2)) ∧ (¬ 4 ≤ x3 → Sp E MX10_fault [.ref 0, .int x3] μ (fun v m5 => ∃ r6 : Int32, v = some (.int r6) ∧ ∀ v7 : Int64, v7 = (((31)) * x1) + (Int32.toInt64 r6) → ∀ v8 : Int32, v8 = x3 + 1 → Ex E MX10_digest Q 33 [(0, .ref 0), (1, .long v7), (3, .int v8)] [] m5)))) : Ex E MX10_digest Q 33 [(0, .ref 0), (1, .long x1), (3, .int x3)] [] μ := by
  refine x_iload_n 2 rfl rfl (dk zX10_digest 20 rfl) ?_
  refine x_iconst (v := 4) (by decide) (dk zX10_digest 21 rfl) ?_
  refine x_icmp_ge (tgt := 57) (by decide) (dk zX10_digest 22 rfl) (fun c1 => ?_) (fun c1 => ?_)
  · have hc1t := h.1 c1
    refine x_ldc2 (v := 31) rfl wkRX10_334 (dk zX10_digest 34 rfl) ?_
    refine x_lload_n 1 rfl rfl (dk zX10_digest 35 rfl) ?_
    refine x_lmul (dk zX10_digest 36 rfl) ?_
    refine x_aload_n 0 rfl rfl (dk zX10_digest 37 rfl) ?_
    refine x_callV (as := []) (o := 0) (ci := 10) (st := [.long (((31)) * x1)]) rfl okRX10_342 npX10_room ⟨Nat.le_of_ble_eq_true rfl, Nat.le_of_ble_eq_true rfl⟩ k0 (by decide) rfl (Nat.le_of_ble_eq_true rfl) (dk zX10_digest 38 rfl) ?_
    refine hc1t.mono ?_
    rintro _ m2 ⟨r3, rfl, hm2⟩
    show Ex E MX10_digest Q 66 [(0, .ref 0), (1, .long x1), (3, .int x3)] [.int r3, .long (((31)) * x1)] m2
    refine x_i2l (dk zX10_digest 39 rfl) ?_
    refine x_ladd (dk zX10_digest 40 rfl) ?_
    refine x_topl (fun v4 ev4 => ?_)
    have hv4 := hm2 v4 ev4
    refine x_lstore_n (k := 1) (l' := [(0, .ref 0), (1, .long v4), (3, .int x3)]) [1, 0, 2] rfl rfl (by decide) (dk zX10_digest 41 rfl) ?_
    refine x_iconst (v := 0) (by decide) (dk zX10_digest 42 rfl) ?_
    refine x_istore_n (k := 3) (l' := [(0, .ref 0), (1, .long v4), (3, .int 0)]) [1, 2, 0] rfl rfl (by decide) (dk zX10_digest 43 rfl) ?_
    exact hv4
  · have hc1f := h.2 c1
    refine x_ldc2 (v := 31) rfl wkRX10_334 (dk zX10_digest 23 rfl) ?_
    refine x_lload_n 1 rfl rfl (dk zX10_digest 24 rfl) ?_
    refine x_lmul (dk zX10_digest 25 rfl) ?_
    refine x_aload_n 0 rfl rfl (dk zX10_digest 26 rfl) ?_
    refine x_iload_n 2 rfl rfl (dk zX10_digest 27 rfl) ?_
    refine x_callV (as := [.int x3]) (o := 0) (ci := 10) (st := [.long (((31)) * x1)]) rfl okRX10_339 npX10_fault ⟨Nat.le_of_ble_eq_true rfl, Nat.le_of_ble_eq_true rfl⟩ k0 (by decide) rfl (Nat.le_of_ble_eq_true rfl) (dk zX10_digest 28 rfl) ?_
    refine hc1f.mono ?_
    rintro _ m5 ⟨r6, rfl, hm5⟩
    show Ex E MX10_digest Q 48 [(0, .ref 0), (1, .long x1), (3, .int x3)] [.int r6, .long (((31)) * x1)] m5
    refine x_i2l (dk zX10_digest 29 rfl) ?_
    refine x_ladd (dk zX10_digest 30 rfl) ?_
    refine x_topl (fun v7 ev7 => ?_)
    have hv7 := hm5 v7 ev7
    refine x_lstore_n (k := 1) (l' := [(0, .ref 0), (1, .long v7), (3, .int x3)]) [1, 0, 2] rfl rfl (by decide) (dk zX10_digest 31 rfl) ?_
    obtain ⟨v8, ev8⟩ : ∃ y : Int32, y = x3 + 1 := ⟨_, rfl⟩
    have hv8 := hv7 v8 ev8
    refine x_iinc (v := v8) (l' := [(0, .ref 0), (1, .long v7), (3, .int v8)]) 2 rfl (by rw [ev8]; rfl) [1, 2, 0] rfl (by decide) (dk zX10_digest 32 rfl) ?_
    refine x_goto (tgt := 33) (by decide) (dk zX10_digest 33 rfl) ?_
    exact hv8
set_option maxRecDepth 20000 in
set_option maxHeartbeats 2000000 in
theorem gX10_digest_71 {E : EV} {Q : Po} {μ : Mem} {x1 : Int64} {x3 : Int32} (h : Sp E MX3_gatesTold [.ref 1] μ (fun v m1 => ∃ r2 : Int32, v = some (.int r2) ∧ ((r2 ≤ x3 → Ex E MX10_digest Q 97 [(0, .ref 0), (1, .long x1), (3, .int 1)] [] m1) ∧ (¬ r2 ≤ x3 → Sp E MX10_digestGate [.ref 0, .long x1, .int x3] m1 (fun v m4 => ∃ r5 : Int64, v = some (.long r5) ∧ ∀ v6 : Int32, v6 = x3 + 1 → Ex E MX10_digest Q 71 [(0, .ref 0), (1, .long r5), (3, .int v6)] [] m4))))) : Ex E MX10_digest Q 71 [(0, .ref 0), (1, .long x1), (3, .int x3)] [] μ := by
  refine x_iload_n 2 rfl rfl (dk zX10_digest 44 rfl) ?_
  refine x_aload_n 0 rfl rfl (dk zX10_digest 45 rfl) ?_
  refine gf10_0 (r := 1) rfl k0 r0_0 (dk zX10_digest 46 rfl) ?_
  refine x_callV (as := []) (o := 1) (ci := 3) (st := [.int x3]) rfl okRX10_320 npX3_gatesTold ⟨Nat.le_of_ble_eq_true rfl, Nat.le_of_ble_eq_true rfl⟩ k1 (by decide) rfl (Nat.le_of_ble_eq_true rfl) (dk zX10_digest 47 rfl) ?_
  refine h.mono ?_
  rintro _ m1 ⟨r2, rfl, hm1⟩
  show Ex E MX10_digest Q 79 [(0, .ref 0), (1, .long x1), (3, .int x3)] [.int r2, .int x3] m1
  refine x_icmp_ge (tgt := 95) (by decide) (dk zX10_digest 48 rfl) (fun c3 => ?_) (fun c3 => ?_)
  · have hc3t := hm1.1 c3
    refine x_iconst (v := 1) (by decide) (dk zX10_digest 56 rfl) ?_
    refine x_istore_n (k := 3) (l' := [(0, .ref 0), (1, .long x1), (3, .int 1)]) [1, 2, 0] rfl rfl (by decide) (dk zX10_digest 57 rfl) ?_
    exact hc3t
  · have hc3f := hm1.2 c3
    refine x_aload_n 0 rfl rfl (dk zX10_digest 49 rfl) ?_
    refine x_lload_n 1 rfl rfl (dk zX10_digest 50 rfl) ?_
    refine x_iload_n 2 rfl rfl (dk zX10_digest 51 rfl) ?_
    refine x_callV (as := [.long x1, .int x3]) (o := 0) (ci := 10) (st := []) rfl okRX10_345 npX10_digestGate ⟨Nat.le_of_ble_eq_true rfl, Nat.le_of_ble_eq_true rfl⟩ k0 (by decide) rfl (Nat.le_of_ble_eq_true rfl) (dk zX10_digest 52 rfl) ?_
    refine hc3f.mono ?_
    rintro _ m4 ⟨r5, rfl, hm4⟩
    show Ex E MX10_digest Q 88 [(0, .ref 0), (1, .long x1), (3, .int x3)] [.long r5] m4
    refine x_lstore_n (k := 1) (l' := [(0, .ref 0), (1, .long r5), (3, .int x3)]) [1, 0, 2] rfl rfl (by decide) (dk zX10_digest 53 rfl) ?_
    obtain ⟨v6, ev6⟩ : ∃ y : Int32, y = x3 + 1 := ⟨_, rfl⟩
    have hv6 := hm4 v6 ev6
    refine x_iinc (v := v6) (l' := [(0, .ref 0), (1, .long r5), (3, .int v6)]) 2 rfl (by rw [ev6]; rfl) [1, 2, 0] rfl (by decide) (dk zX10_digest 54 rfl) ?_
    refine x_goto (tgt := 71) (by decide) (dk zX10_digest 55 rfl) ?_
    exact hv6
set_option maxRecDepth 20000 in
set_option maxHeartbeats 2000000 in
theorem gX10_digest_97 {E : EV} {Q : Po} {μ : Mem} {x1 : Int64} {x3 : Int32} (h : ((4 ≤ x3 → Sp E MX10_same [.ref 0, .int 1, .int 2] μ (fun v m2 => ∃ r3 : Int32, v = some (.int r3) ∧ ∀ v4 : Int64, v4 = (((31)) * x1) + (Int32.toInt64 r3) → Ex E MX10_digest Q 131 [(0, .ref 0), (1, .long v4), (3, .int 0)] [] m2)) ∧ (¬ 4 ≤ x3 → Sp E MX10_digestWay [.ref 0, .long x1, .int x3] μ (fun v m5 => ∃ r6 : Int64, v = some (.long r6) ∧ ∀ v7 : Int32, v7 = x3 + 1 → Ex E MX10_digest Q 97 [(0, .ref 0), (1, .long r6), (3, .int v7)] [] m5)))) : Ex E MX10_digest Q 97 [(0, .ref 0), (1, .long x1), (3, .int x3)] [] μ := by
  refine x_iload_n 2 rfl rfl (dk zX10_digest 58 rfl) ?_
  refine x_iconst (v := 4) (by decide) (dk zX10_digest 59 rfl) ?_
  refine x_icmp_ge (tgt := 115) (by decide) (dk zX10_digest 60 rfl) (fun c1 => ?_) (fun c1 => ?_)
  · have hc1t := h.1 c1
    refine x_ldc2 (v := 31) rfl wkRX10_334 (dk zX10_digest 68 rfl) ?_
    refine x_lload_n 1 rfl rfl (dk zX10_digest 69 rfl) ?_
    refine x_lmul (dk zX10_digest 70 rfl) ?_
    refine x_aload_n 0 rfl rfl (dk zX10_digest 71 rfl) ?_
    refine x_iconst (v := 1) (by decide) (dk zX10_digest 72 rfl) ?_
    refine x_iconst (v := 2) (by decide) (dk zX10_digest 73 rfl) ?_
    refine x_callV (as := [.int 1, .int 2]) (o := 0) (ci := 10) (st := [.long (((31)) * x1)]) rfl okRX10_352 npX10_same ⟨Nat.le_of_ble_eq_true rfl, Nat.le_of_ble_eq_true rfl⟩ k0 (by decide) rfl (Nat.le_of_ble_eq_true rfl) (dk zX10_digest 74 rfl) ?_
    refine hc1t.mono ?_
    rintro _ m2 ⟨r3, rfl, hm2⟩
    show Ex E MX10_digest Q 126 [(0, .ref 0), (1, .long x1), (3, .int x3)] [.int r3, .long (((31)) * x1)] m2
    refine x_i2l (dk zX10_digest 75 rfl) ?_
    refine x_ladd (dk zX10_digest 76 rfl) ?_
    refine x_topl (fun v4 ev4 => ?_)
    have hv4 := hm2 v4 ev4
    refine x_lstore_n (k := 1) (l' := [(0, .ref 0), (1, .long v4), (3, .int x3)]) [1, 0, 2] rfl rfl (by decide) (dk zX10_digest 77 rfl) ?_
    refine x_iconst (v := 0) (by decide) (dk zX10_digest 78 rfl) ?_
    refine x_istore_n (k := 3) (l' := [(0, .ref 0), (1, .long v4), (3, .int 0)]) [1, 2, 0] rfl rfl (by decide) (dk zX10_digest 79 rfl) ?_
    exact hv4
  · have hc1f := h.2 c1
    refine x_aload_n 0 rfl rfl (dk zX10_digest 61 rfl) ?_
    refine x_lload_n 1 rfl rfl (dk zX10_digest 62 rfl) ?_
    refine x_iload_n 2 rfl rfl (dk zX10_digest 63 rfl) ?_
    refine x_callV (as := [.long x1, .int x3]) (o := 0) (ci := 10) (st := []) rfl okRX10_349 npX10_digestWay ⟨Nat.le_of_ble_eq_true rfl, Nat.le_of_ble_eq_true rfl⟩ k0 (by decide) rfl (Nat.le_of_ble_eq_true rfl) (dk zX10_digest 64 rfl) ?_
    refine hc1f.mono ?_
    rintro _ m5 ⟨r6, rfl, hm5⟩
    show Ex E MX10_digest Q 108 [(0, .ref 0), (1, .long x1), (3, .int x3)] [.long r6] m5
    refine x_lstore_n (k := 1) (l' := [(0, .ref 0), (1, .long r6), (3, .int x3)]) [1, 0, 2] rfl rfl (by decide) (dk zX10_digest 65 rfl) ?_
    obtain ⟨v7, ev7⟩ : ∃ y : Int32, y = x3 + 1 := ⟨_, rfl⟩
    have hv7 := hm5 v7 ev7
    refine x_iinc (v := v7) (l' := [(0, .ref 0), (1, .long r6), (3, .int v7)]) 2 rfl (by rw [ev7]; rfl) [1, 2, 0] rfl (by decide) (dk zX10_digest 66 rfl) ?_
    refine x_goto (tgt := 97) (by decide) (dk zX10_digest 67 rfl) ?_
    exact hv7
set_option maxRecDepth 20000 in
set_option maxHeartbeats 2000000 in
theorem gX10_digest_131 {E : EV} {Q : Po} {μ : Mem} {x1 : Int64} {x3 : Int32} (h : ((8 ≤ x3 → Sp E MX10_slips [.ref 0, .int 7] μ (fun v m2 => ∃ r3 : Int32, v = some (.int r3) ∧ ∀ v4 : Int64, v4 = (((31)) * x1) + (Int32.toInt64 r3) → Sp E MX10_fewest [.ref 0] m2 (fun v m5 => ∃ r6 : Int32, v = some (.int r6) ∧ Q (some (.long ((((31)) * v4) + (Int32.toInt64 r6)))) m5))) ∧ (¬ 8 ≤ x3 → Sp E MX10_digestTown [.ref 0, .long x1, .int x3] μ (fun v m7 => ∃ r8 : Int64, v = some (.long r8) ∧ ∀ v9 : Int32, v9 = x3 + 1 → Ex E MX10_digest Q 131 [(0, .ref 0), (1, .long r8), (3, .int v9)] [] m7)))) : Ex E MX10_digest Q 131 [(0, .ref 0), (1, .long x1), (3, .int x3)] [] μ := by
  refine x_iload_n 2 rfl rfl (dk zX10_digest 80 rfl) ?_
  refine x_bipush (v := 8) (by decide) (dk zX10_digest 81 rfl) ?_
  refine x_icmp_ge (tgt := 150) (by decide) (dk zX10_digest 82 rfl) (fun c1 => ?_) (fun c1 => ?_)
  · have hc1t := h.1 c1
    refine x_ldc2 (v := 31) rfl wkRX10_334 (dk zX10_digest 90 rfl) ?_
    refine x_lload_n 1 rfl rfl (dk zX10_digest 91 rfl) ?_
    refine x_lmul (dk zX10_digest 92 rfl) ?_
    refine x_aload_n 0 rfl rfl (dk zX10_digest 93 rfl) ?_
    refine x_bipush (v := 7) (by decide) (dk zX10_digest 94 rfl) ?_
    refine x_callV (as := [.int 7]) (o := 0) (ci := 10) (st := [.long (((31)) * x1)]) rfl okRX10_358 npX10_slips ⟨Nat.le_of_ble_eq_true rfl, Nat.le_of_ble_eq_true rfl⟩ k0 (by decide) rfl (Nat.le_of_ble_eq_true rfl) (dk zX10_digest 95 rfl) ?_
    refine hc1t.mono ?_
    rintro _ m2 ⟨r3, rfl, hm2⟩
    show Ex E MX10_digest Q 161 [(0, .ref 0), (1, .long x1), (3, .int x3)] [.int r3, .long (((31)) * x1)] m2
    refine x_i2l (dk zX10_digest 96 rfl) ?_
    refine x_ladd (dk zX10_digest 97 rfl) ?_
    refine x_topl (fun v4 ev4 => ?_)
    have hv4 := hm2 v4 ev4
    refine x_lstore_n (k := 1) (l' := [(0, .ref 0), (1, .long v4), (3, .int x3)]) [1, 0, 2] rfl rfl (by decide) (dk zX10_digest 98 rfl) ?_
    refine x_ldc2 (v := 31) rfl wkRX10_334 (dk zX10_digest 99 rfl) ?_
    refine x_lload_n 1 rfl rfl (dk zX10_digest 100 rfl) ?_
    refine x_lmul (dk zX10_digest 101 rfl) ?_
    refine x_aload_n 0 rfl rfl (dk zX10_digest 102 rfl) ?_
    refine x_callV (as := []) (o := 0) (ci := 10) (st := [.long (((31)) * v4)]) rfl okRX10_361 npX10_fewest ⟨Nat.le_of_ble_eq_true rfl, Nat.le_of_ble_eq_true rfl⟩ k0 (by decide) rfl (Nat.le_of_ble_eq_true rfl) (dk zX10_digest 103 rfl) ?_
    refine hv4.mono ?_
    rintro _ m5 ⟨r6, rfl, hm5⟩
    show Ex E MX10_digest Q 173 [(0, .ref 0), (1, .long v4), (3, .int x3)] [.int r6, .long (((31)) * v4)] m5
    refine x_i2l (dk zX10_digest 104 rfl) ?_
    refine x_ladd (dk zX10_digest 105 rfl) ?_
    exact x_lret rfl (dk zX10_digest 106 rfl) hm5
  · have hc1f := h.2 c1
    refine x_aload_n 0 rfl rfl (dk zX10_digest 83 rfl) ?_
    refine x_lload_n 1 rfl rfl (dk zX10_digest 84 rfl) ?_
    refine x_iload_n 2 rfl rfl (dk zX10_digest 85 rfl) ?_
    refine x_callV (as := [.long x1, .int x3]) (o := 0) (ci := 10) (st := []) rfl okRX10_355 npX10_digestTown ⟨Nat.le_of_ble_eq_true rfl, Nat.le_of_ble_eq_true rfl⟩ k0 (by decide) rfl (Nat.le_of_ble_eq_true rfl) (dk zX10_digest 86 rfl) ?_
    refine hc1f.mono ?_
    rintro _ m7 ⟨r8, rfl, hm7⟩
    show Ex E MX10_digest Q 143 [(0, .ref 0), (1, .long x1), (3, .int x3)] [.long r8] m7
    refine x_lstore_n (k := 1) (l' := [(0, .ref 0), (1, .long r8), (3, .int x3)]) [1, 0, 2] rfl rfl (by decide) (dk zX10_digest 87 rfl) ?_
    obtain ⟨v9, ev9⟩ : ∃ y : Int32, y = x3 + 1 := ⟨_, rfl⟩
    have hv9 := hm7 v9 ev9
    refine x_iinc (v := v9) (l' := [(0, .ref 0), (1, .long r8), (3, .int v9)]) 2 rfl (by rw [ev9]; rfl) [1, 2, 0] rfl (by decide) (dk zX10_digest 88 rfl) ?_
    refine x_goto (tgt := 131) (by decide) (dk zX10_digest 89 rfl) ?_
    exact hv9
