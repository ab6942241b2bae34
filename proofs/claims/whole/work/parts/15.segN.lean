set_option maxRecDepth 20000 in
set_option maxHeartbeats 2000000 in
theorem gX11_findUnseen_0 {E : EV} {Q : Po} {μ : Mem}  (h : Ex E MX11_findUnseen Q 2 [(0, .ref 123), (1, .int 0)] [] μ) : Ex E MX11_findUnseen Q 0 [(0, .ref 123)] [] μ := by
  refine x_iconst (v := 0) (by decide) (dk zX11_findUnseen 0 rfl) ?_
  refine x_istore_n (k := 1) (l' := [(0, .ref 123), (1, .int 0)]) [1, 0] rfl rfl (by decide) (dk zX11_findUnseen 1 rfl) ?_
  exact h
set_option maxRecDepth 20000 in
set_option maxHeartbeats 2000000 in
theorem gX11_findUnseen_2 {E : EV} {Q : Po} {μ : Mem} {x1 : Int32} (h : ((8 ≤ x1 → Q none μ) ∧ (¬ 8 ≤ x1 → Ex E MX11_findUnseen Q 10 [(0, .ref 123), (1, .int x1), (2, .int 0)] [] μ))) : Ex E MX11_findUnseen Q 2 [(0, .ref 123), (1, .int x1)] [] μ := by
  refine x_iload_n 1 rfl rfl (dk zX11_findUnseen 2 rfl) ?_
  refine x_bipush (v := 8) (by decide) (dk zX11_findUnseen 3 rfl) ?_
  refine x_icmp_ge (tgt := 201) (by decide) (dk zX11_findUnseen 4 rfl) (fun c1 => ?_) (fun c1 => ?_)
  · have hc1t := h.1 c1
    exact x_vret rfl (dk zX11_findUnseen 119 rfl) hc1t
  · have hc1f := h.2 c1
    refine x_iconst (v := 0) (by decide) (dk zX11_findUnseen 5 rfl) ?_
    refine x_istore_n (k := 2) (l' := [(0, .ref 123), (1, .int x1), (2, .int 0)]) [1, 2, 0] rfl rfl (by decide) (dk zX11_findUnseen 6 rfl) ?_
    exact hc1f
set_option maxRecDepth 20000 in
set_option maxHeartbeats 2000000 in
theorem gX11_findUnseen_10 {E : EV} {Q : Po} {μ : Mem} {x1 : Int32} {x2 : Int32} (h : ((8 ≤ x2 → Ex E MX11_findUnseen Q 68 [(0, .ref 123), (1, .int x1), (2, .int 1)] [] μ) ∧ (¬ 8 ≤ x2 → ((¬ x1 = x2 → vp_in ((8 * x1) + x2) 64 ∧ (((¬ x1 = x2 → ∀ v5 : Int32, v5 = x2 + 1 → Ex E MX11_findUnseen Q 10 [(0, .ref 123), (1, .int x1), (2, .int v5)] [] (mJ (mI μ 135 (((8 * x1) + x2).toNatClampNeg) 1000) 136 (((8 * x1) + x2).toNatClampNeg) 0)) ∧ (x1 = x2 → ∀ v6 : Int32, v6 = x2 + 1 → Ex E MX11_findUnseen Q 10 [(0, .ref 123), (1, .int x1), (2, .int v6)] [] (mJ (mI μ 135 (((8 * x1) + x2).toNatClampNeg) 1000) 136 (((8 * x1) + x2).toNatClampNeg) 1))))) ∧ (x1 = x2 → vp_in ((8 * x1) + x2) 64 ∧ (((¬ x1 = x2 → ∀ v9 : Int32, v9 = x2 + 1 → Ex E MX11_findUnseen Q 10 [(0, .ref 123), (1, .int x1), (2, .int v9)] [] (mJ (mI μ 135 (((8 * x1) + x2).toNatClampNeg) 0) 136 (((8 * x1) + x2).toNatClampNeg) 0)) ∧ (x1 = x2 → ∀ v10 : Int32, v10 = x2 + 1 → Ex E MX11_findUnseen Q 10 [(0, .ref 123), (1, .int x1), (2, .int v10)] [] (mJ (mI μ 135 (((8 * x1) + x2).toNatClampNeg) 0) 136 (((8 * x1) + x2).toNatClampNeg) 1))))))))) : Ex E MX11_findUnseen Q 10 [(0, .ref 123), (1, .int x1), (2, .int x2)] [] μ := by
  refine x_iload_n 2 rfl rfl (dk zX11_findUnseen 7 rfl) ?_
  refine x_bipush (v := 8) (by decide) (dk zX11_findUnseen 8 rfl) ?_
  refine x_icmp_ge (tgt := 66) (by decide) (dk zX11_findUnseen 9 rfl) (fun c1 => ?_) (fun c1 => ?_)
  · have hc1t := h.1 c1
    refine x_iconst (v := 1) (by decide) (dk zX11_findUnseen 40 rfl) ?_
    refine x_istore_n (k := 2) (l' := [(0, .ref 123), (1, .int x1), (2, .int 1)]) [1, 2, 0] rfl rfl (by decide) (dk zX11_findUnseen 41 rfl) ?_
    exact hc1t
  · have hc1f := h.2 c1
    refine x_aload_n 0 rfl rfl (dk zX11_findUnseen 10 rfl) ?_
    refine gf11_17 (r := 135) rfl k123 r123_17 (dk zX11_findUnseen 11 rfl) ?_
    refine x_bipush (v := 8) (by decide) (dk zX11_findUnseen 12 rfl) ?_
    refine x_iload_n 1 rfl rfl (dk zX11_findUnseen 13 rfl) ?_
    refine x_imul (dk zX11_findUnseen 14 rfl) ?_
    refine x_iload_n 2 rfl rfl (dk zX11_findUnseen 15 rfl) ?_
    refine x_iadd (dk zX11_findUnseen 16 rfl) ?_
    refine x_iload_n 1 rfl rfl (dk zX11_findUnseen 17 rfl) ?_
    refine x_iload_n 2 rfl rfl (dk zX11_findUnseen 18 rfl) ?_
    refine x_icmp_ne (tgt := 35) (by decide) (dk zX11_findUnseen 19 rfl) (fun c2 => ?_) (fun c2 => ?_)
    · have hc2t := hc1f.1 c2
      refine x_sipush (v := 1000) (by decide) (dk zX11_findUnseen 22 rfl) ?_
      have b3 := hc2t.1
      have hb3 := hc2t.2
      refine y_iast (j := ((8 * x1) + x2).toNatClampNeg) k135 l135 b3 rfl (dk zX11_findUnseen 23 rfl) ?_
      refine x_aload_n 0 rfl rfl (dk zX11_findUnseen 24 rfl) ?_
      refine gf11_18 (r := 136) rfl k123 r123_18 (dk zX11_findUnseen 25 rfl) ?_
      refine x_bipush (v := 8) (by decide) (dk zX11_findUnseen 26 rfl) ?_
      refine x_iload_n 1 rfl rfl (dk zX11_findUnseen 27 rfl) ?_
      refine x_imul (dk zX11_findUnseen 28 rfl) ?_
      refine x_iload_n 2 rfl rfl (dk zX11_findUnseen 29 rfl) ?_
      refine x_iadd (dk zX11_findUnseen 30 rfl) ?_
      refine x_iload_n 1 rfl rfl (dk zX11_findUnseen 31 rfl) ?_
      refine x_iload_n 2 rfl rfl (dk zX11_findUnseen 32 rfl) ?_
      refine x_icmp_ne (tgt := 58) (by decide) (dk zX11_findUnseen 33 rfl) (fun c4 => ?_) (fun c4 => ?_)
      · have hc4t := hb3.1 c4
        refine x_lconst (v := 0) (by decide) (dk zX11_findUnseen 36 rfl) ?_
        refine y_last (j := ((8 * x1) + x2).toNatClampNeg) k136 l136 b3 rfl (dk zX11_findUnseen 37 rfl) ?_
        obtain ⟨v5, ev5⟩ : ∃ y : Int32, y = x2 + 1 := ⟨_, rfl⟩
        have hv5 := hc4t v5 ev5
        refine x_iinc (v := v5) (l' := [(0, .ref 123), (1, .int x1), (2, .int v5)]) 2 rfl (by rw [ev5]; rfl) [1, 2, 0] rfl (by decide) (dk zX11_findUnseen 38 rfl) ?_
        refine x_goto (tgt := 10) (by decide) (dk zX11_findUnseen 39 rfl) ?_
        exact hv5
      · have hc4f := hb3.2 c4
        refine x_lconst (v := 1) (by decide) (dk zX11_findUnseen 34 rfl) ?_
        refine x_goto (tgt := 59) (by decide) (dk zX11_findUnseen 35 rfl) ?_
        refine y_last (j := ((8 * x1) + x2).toNatClampNeg) k136 l136 b3 rfl (dk zX11_findUnseen 37 rfl) ?_
        obtain ⟨v6, ev6⟩ : ∃ y : Int32, y = x2 + 1 := ⟨_, rfl⟩
        have hv6 := hc4f v6 ev6
        refine x_iinc (v := v6) (l' := [(0, .ref 123), (1, .int x1), (2, .int v6)]) 2 rfl (by rw [ev6]; rfl) [1, 2, 0] rfl (by decide) (dk zX11_findUnseen 38 rfl) ?_
        refine x_goto (tgt := 10) (by decide) (dk zX11_findUnseen 39 rfl) ?_
        exact hv6
    · have hc2f := hc1f.2 c2
      refine x_iconst (v := 0) (by decide) (dk zX11_findUnseen 20 rfl) ?_
      refine x_goto (tgt := 38) (by decide) (dk zX11_findUnseen 21 rfl) ?_
      have b7 := hc2f.1
      have hb7 := hc2f.2
      refine y_iast (j := ((8 * x1) + x2).toNatClampNeg) k135 l135 b7 rfl (dk zX11_findUnseen 23 rfl) ?_
      refine x_aload_n 0 rfl rfl (dk zX11_findUnseen 24 rfl) ?_
      refine gf11_18 (r := 136) rfl k123 r123_18 (dk zX11_findUnseen 25 rfl) ?_
      refine x_bipush (v := 8) (by decide) (dk zX11_findUnseen 26 rfl) ?_
      refine x_iload_n 1 rfl rfl (dk zX11_findUnseen 27 rfl) ?_
      refine x_imul (dk zX11_findUnseen 28 rfl) ?_
      refine x_iload_n 2 rfl rfl (dk zX11_findUnseen 29 rfl) ?_
      refine x_iadd (dk zX11_findUnseen 30 rfl) ?_
      refine x_iload_n 1 rfl rfl (dk zX11_findUnseen 31 rfl) ?_
      refine x_iload_n 2 rfl rfl (dk zX11_findUnseen 32 rfl) ?_
      refine x_icmp_ne (tgt := 58) (by decide) (dk zX11_findUnseen 33 rfl) (fun c8 => ?_) (fun c8 => ?_)
      · have hc8t := hb7.1 c8
        refine x_lconst (v := 0) (by decide) (dk zX11_findUnseen 36 rfl) ?_
        refine y_last (j := ((8 * x1) + x2).toNatClampNeg) k136 l136 b7 rfl (dk zX11_findUnseen 37 rfl) ?_
        obtain ⟨v9, ev9⟩ : ∃ y : Int32, y = x2 + 1 := ⟨_, rfl⟩
        have hv9 := hc8t v9 ev9
        refine x_iinc (v := v9) (l' := [(0, .ref 123), (1, .int x1), (2, .int v9)]) 2 rfl (by rw [ev9]; rfl) [1, 2, 0] rfl (by decide) (dk zX11_findUnseen 38 rfl) ?_
        refine x_goto (tgt := 10) (by decide) (dk zX11_findUnseen 39 rfl) ?_
        exact hv9
      · have hc8f := hb7.2 c8
        refine x_lconst (v := 1) (by decide) (dk zX11_findUnseen 34 rfl) ?_
        refine x_goto (tgt := 59) (by decide) (dk zX11_findUnseen 35 rfl) ?_
        refine y_last (j := ((8 * x1) + x2).toNatClampNeg) k136 l136 b7 rfl (dk zX11_findUnseen 37 rfl) ?_
        obtain ⟨v10, ev10⟩ : ∃ y : Int32, y = x2 + 1 := ⟨_, rfl⟩
        have hv10 := hc8f v10 ev10
        refine x_iinc (v := v10) (l' := [(0, .ref 123), (1, .int x1), (2, .int v10)]) 2 rfl (by rw [ev10]; rfl) [1, 2, 0] rfl (by decide) (dk zX11_findUnseen 38 rfl) ?_
        refine x_goto (tgt := 10) (by decide) (dk zX11_findUnseen 39 rfl) ?_
        exact hv10
set_option maxRecDepth 20000 in
set_option maxHeartbeats 2000000 in
theorem gX11_findUnseen_68 {E : EV} {Q : Po} {μ : Mem} {x1 : Int32} {x2 : Int32} (h : ((8 ≤ x2 → ∀ v2 : Int32, v2 = x1 + 1 → Ex E MX11_findUnseen Q 2 [(0, .ref 123), (1, .int v2)] [] μ) ∧ (¬ 8 ≤ x2 → Ex E MX11_findUnseen Q 76 [(0, .ref 123), (1, .int x1), (2, .int x2), (3, .int 0)] [] μ))) : Ex E MX11_findUnseen Q 68 [(0, .ref 123), (1, .int x1), (2, .int x2)] [] μ := by
  refine x_iload_n 2 rfl rfl (dk zX11_findUnseen 42 rfl) ?_
  refine x_bipush (v := 8) (by decide) (dk zX11_findUnseen 43 rfl) ?_
  refine x_icmp_ge (tgt := 195) (by decide) (dk zX11_findUnseen 44 rfl) (fun c1 => ?_) (fun c1 => ?_)
  · have hc1t := h.1 c1
    obtain ⟨v2, ev2⟩ : ∃ y : Int32, y = x1 + 1 := ⟨_, rfl⟩
    have hv2 := hc1t v2 ev2
    refine x_iinc (v := v2) (l' := [(0, .ref 123), (1, .int v2), (2, .int x2)]) 1 rfl (by rw [ev2]; rfl) [1, 0, 2] rfl (by decide) (dk zX11_findUnseen 117 rfl) ?_
    refine x_goto (tgt := 2) (by decide) (dk zX11_findUnseen 118 rfl) ?_
    exact x_sub [0, 1] rfl hv2
  · have hc1f := h.2 c1
    refine x_iconst (v := 0) (by decide) (dk zX11_findUnseen 45 rfl) ?_
    refine x_istore_n (k := 3) (l' := [(0, .ref 123), (1, .int x1), (2, .int x2), (3, .int 0)]) [1, 2, 3, 0] rfl rfl (by decide) (dk zX11_findUnseen 46 rfl) ?_
    exact hc1f
set_option maxRecDepth 20000 in
set_option maxHeartbeats 2000000 in
theorem gX11_findUnseen_76 {E : EV} {Q : Po} {μ : Mem} {x1 : Int32} {x2 : Int32} {x3 : Int32} (h : (((2 * (μ.1 123 8)) ≤ x3 → ∀ v2 : Int32, v2 = x2 + 1 → Ex E MX11_findUnseen Q 68 [(0, .ref 123), (1, .int x1), (2, .int v2)] [] μ) ∧ (¬ (2 * (μ.1 123 8)) ≤ x3 → Sp E MX11_isUnseen [.ref 123, .int x3] μ (fun v m3 => ∃ r4 : Int32, v = some (.int r4) ∧ ((r4 = 0 → Sp E MX11_end [.ref 123, .int x3] m3 (fun v m6 => ∃ r7 : Int32, v = some (.int r7) ∧ ∀ v8 : Int32, v8 = (8 * x1) + r7 → ∀ v9 : Int32, v9 = x3 + 1 → Ex E MX11_findUnseen Q 76 [(0, .ref 123), (1, .int x1), (2, .int x2), (3, .int v9)] [] m6)) ∧ (¬ r4 = 0 → Sp E MX11_start [.ref 123, .int x3] m3 (fun v m10 => ∃ r11 : Int32, v = some (.int r11) ∧ vp_in ((8 * x1) + r11) 64 ∧ (((¬ (m10.1 135 (((8 * x1) + r11).toNatClampNeg)) = (x2 - 1) → Sp E MX11_end [.ref 123, .int x3] m10 (fun v m14 => ∃ r15 : Int32, v = some (.int r15) ∧ ∀ v16 : Int32, v16 = (8 * x1) + r15 → ∀ v17 : Int32, v17 = x3 + 1 → Ex E MX11_findUnseen Q 76 [(0, .ref 123), (1, .int x1), (2, .int x2), (3, .int v17)] [] m14)) ∧ ((m10.1 135 (((8 * x1) + r11).toNatClampNeg)) = (x2 - 1) → Sp E MX11_end [.ref 123, .int x3] m10 (fun v m18 => ∃ r19 : Int32, v = some (.int r19) ∧ ∀ v20 : Int32, v20 = (8 * x1) + r19 → vp_in v20 64 ∧ ((((m18.1 135 v20.toNatClampNeg) < x2 → ∀ v23 : Int32, v23 = x3 + 1 → Ex E MX11_findUnseen Q 76 [(0, .ref 123), (1, .int x1), (2, .int x2), (3, .int v23)] [] m18) ∧ (¬ (m18.1 135 v20.toNatClampNeg) < x2 → Sp E MX11_start [.ref 123, .int x3] (mI m18 135 v20.toNatClampNeg x2) (fun v m24 => ∃ r25 : Int32, v = some (.int r25) ∧ vp_in ((8 * x1) + r25) 64 ∧ (∀ v27 : Int64, v27 = ((mI m18 135 v20.toNatClampNeg x2).2 136 v20.toNatClampNeg) + (m24.2 136 (((8 * x1) + r25).toNatClampNeg)) → ∀ v28 : Int32, v28 = x3 + 1 → Ex E MX11_findUnseen Q 76 [(0, .ref 123), (1, .int x1), (2, .int x2), (3, .int v28)] [] (mJ m24 136 v20.toNatClampNeg v27))))))))))))))))) : Ex E MX11_findUnseen Q 76 [(0, .ref 123), (1, .int x1), (2, .int x2), (3, .int x3)] [] μ := by
  refine x_iload_n 3 rfl rfl (dk zX11_findUnseen 47 rfl) ?_
  refine x_iconst (v := 2) (by decide) (dk zX11_findUnseen 48 rfl) ?_
  refine x_aload_n 0 rfl rfl (dk zX11_findUnseen 49 rfl) ?_
  refine gf11_8 rfl k123 (dk zX11_findUnseen 50 rfl) ?_
  refine x_imul (dk zX11_findUnseen 51 rfl) ?_
  refine x_icmp_ge (tgt := 189) (by decide) (dk zX11_findUnseen 52 rfl) (fun c1 => ?_) (fun c1 => ?_)
  · have hc1t := h.1 c1
    obtain ⟨v2, ev2⟩ : ∃ y : Int32, y = x2 + 1 := ⟨_, rfl⟩
    have hv2 := hc1t v2 ev2
    refine x_iinc (v := v2) (l' := [(0, .ref 123), (1, .int x1), (2, .int v2), (3, .int x3)]) 2 rfl (by rw [ev2]; rfl) [1, 2, 0, 3] rfl (by decide) (dk zX11_findUnseen 115 rfl) ?_
    refine x_goto (tgt := 68) (by decide) (dk zX11_findUnseen 116 rfl) ?_
    exact x_sub [0, 1, 2] rfl hv2
  · have hc1f := h.2 c1
    refine x_aload_n 0 rfl rfl (dk zX11_findUnseen 53 rfl) ?_
    refine x_iload_n 3 rfl rfl (dk zX11_findUnseen 54 rfl) ?_
    refine x_callV (as := [.int x3]) (o := 123) (ci := 11) (st := []) rfl okRX11_220 npX11_isUnseen ⟨Nat.le_of_ble_eq_true rfl, Nat.le_of_ble_eq_true rfl⟩ k123 (by decide) rfl (Nat.le_of_ble_eq_true rfl) (dk zX11_findUnseen 55 rfl) ?_
    refine hc1f.mono ?_
    rintro _ m3 ⟨r4, rfl, hm3⟩
    show Ex E MX11_findUnseen Q 91 [(0, .ref 123), (1, .int x1), (2, .int x2), (3, .int x3)] [.int r4] m3
    refine x_if_eq (tgt := 119) (by decide) (dk zX11_findUnseen 56 rfl) (fun c5 => ?_) (fun c5 => ?_)
    · have hc5t := hm3.1 c5
      refine x_iconst (v := 0) (by decide) (dk zX11_findUnseen 73 rfl) ?_
      refine x_istoreG (l' := [(0, .ref 123), (1, .int x1), (2, .int x2), (3, .int x3), (4, .int 0)]) [1, 2, 3, 4, 0] rfl (by decide) (dk zX11_findUnseen 74 rfl) ?_
      refine x_bipush (v := 8) (by decide) (dk zX11_findUnseen 75 rfl) ?_
      refine x_iload_n 1 rfl rfl (dk zX11_findUnseen 76 rfl) ?_
      refine x_imul (dk zX11_findUnseen 77 rfl) ?_
      refine x_aload_n 0 rfl rfl (dk zX11_findUnseen 78 rfl) ?_
      refine x_iload_n 3 rfl rfl (dk zX11_findUnseen 79 rfl) ?_
      refine x_callV (as := [.int x3]) (o := 123) (ci := 11) (st := [.int (8 * x1)]) rfl okRX11_202 npX11_end ⟨Nat.le_of_ble_eq_true rfl, Nat.le_of_ble_eq_true rfl⟩ k123 (by decide) rfl (Nat.le_of_ble_eq_true rfl) (dk zX11_findUnseen 80 rfl) ?_
      refine hc5t.mono ?_
      rintro _ m6 ⟨r7, rfl, hm6⟩
      show Ex E MX11_findUnseen Q 131 [(0, .ref 123), (1, .int x1), (2, .int x2), (3, .int x3), (4, .int 0)] [.int r7, .int (8 * x1)] m6
      refine x_iadd (dk zX11_findUnseen 81 rfl) ?_
      refine x_topi (fun v8 ev8 => ?_)
      have hv8 := hm6 v8 ev8
      refine x_istoreG (l' := [(0, .ref 123), (1, .int x1), (2, .int x2), (3, .int x3), (4, .int 0), (5, .int v8)]) [1, 2, 3, 4, 5, 0] rfl (by decide) (dk zX11_findUnseen 82 rfl) ?_
      refine x_iload 4 rfl (dk zX11_findUnseen 83 rfl) ?_
      refine x_if_eq (tgt := 183) (by decide) (dk zX11_findUnseen 84 rfl) (fun _ => ?_) (fun c => absurd c (by decide))
      obtain ⟨v9, ev9⟩ : ∃ y : Int32, y = x3 + 1 := ⟨_, rfl⟩
      have hv9 := hv8 v9 ev9
      refine x_iinc (v := v9) (l' := [(0, .ref 123), (1, .int x1), (2, .int x2), (3, .int v9), (4, .int 0), (5, .int v8)]) 3 rfl (by rw [ev9]; rfl) [1, 2, 3, 0, 4, 5] rfl (by decide) (dk zX11_findUnseen 113 rfl) ?_
      refine x_goto (tgt := 76) (by decide) (dk zX11_findUnseen 114 rfl) ?_
      exact x_sub [0, 1, 2, 3] rfl hv9
    · have hc5f := hm3.2 c5
      refine x_aload_n 0 rfl rfl (dk zX11_findUnseen 57 rfl) ?_
      refine gf11_17 (r := 135) rfl k123 r123_17 (dk zX11_findUnseen 58 rfl) ?_
      refine x_bipush (v := 8) (by decide) (dk zX11_findUnseen 59 rfl) ?_
      refine x_iload_n 1 rfl rfl (dk zX11_findUnseen 60 rfl) ?_
      refine x_imul (dk zX11_findUnseen 61 rfl) ?_
      refine x_aload_n 0 rfl rfl (dk zX11_findUnseen 62 rfl) ?_
      refine x_iload_n 3 rfl rfl (dk zX11_findUnseen 63 rfl) ?_
      refine x_callV (as := [.int x3]) (o := 123) (ci := 11) (st := [.int (8 * x1), .ref 135]) rfl okRX11_166 npX11_start ⟨Nat.le_of_ble_eq_true rfl, Nat.le_of_ble_eq_true rfl⟩ k123 (by decide) rfl (Nat.le_of_ble_eq_true rfl) (dk zX11_findUnseen 64 rfl) ?_
      refine hc5f.mono ?_
      rintro _ m10 ⟨r11, rfl, hm10⟩
      show Ex E MX11_findUnseen Q 107 [(0, .ref 123), (1, .int x1), (2, .int x2), (3, .int x3)] [.int r11, .int (8 * x1), .ref 135] m10
      refine x_iadd (dk zX11_findUnseen 65 rfl) ?_
      have b12 := hm10.1
      have hb12 := hm10.2
      refine y_iald (j := ((8 * x1) + r11).toNatClampNeg) k135 l135 b12 rfl (dk zX11_findUnseen 66 rfl) ?_
      refine x_iload_n 2 rfl rfl (dk zX11_findUnseen 67 rfl) ?_
      refine x_iconst (v := 1) (by decide) (dk zX11_findUnseen 68 rfl) ?_
      refine x_isub (dk zX11_findUnseen 69 rfl) ?_
      refine x_icmp_ne (tgt := 119) (by decide) (dk zX11_findUnseen 70 rfl) (fun c13 => ?_) (fun c13 => ?_)
      · have hc13t := hb12.1 c13
        refine x_iconst (v := 0) (by decide) (dk zX11_findUnseen 73 rfl) ?_
        refine x_istoreG (l' := [(0, .ref 123), (1, .int x1), (2, .int x2), (3, .int x3), (4, .int 0)]) [1, 2, 3, 4, 0] rfl (by decide) (dk zX11_findUnseen 74 rfl) ?_
        refine x_bipush (v := 8) (by decide) (dk zX11_findUnseen 75 rfl) ?_
        refine x_iload_n 1 rfl rfl (dk zX11_findUnseen 76 rfl) ?_
        refine x_imul (dk zX11_findUnseen 77 rfl) ?_
        refine x_aload_n 0 rfl rfl (dk zX11_findUnseen 78 rfl) ?_
        refine x_iload_n 3 rfl rfl (dk zX11_findUnseen 79 rfl) ?_
        refine x_callV (as := [.int x3]) (o := 123) (ci := 11) (st := [.int (8 * x1)]) rfl okRX11_202 npX11_end ⟨Nat.le_of_ble_eq_true rfl, Nat.le_of_ble_eq_true rfl⟩ k123 (by decide) rfl (Nat.le_of_ble_eq_true rfl) (dk zX11_findUnseen 80 rfl) ?_
        refine hc13t.mono ?_
        rintro _ m14 ⟨r15, rfl, hm14⟩
        show Ex E MX11_findUnseen Q 131 [(0, .ref 123), (1, .int x1), (2, .int x2), (3, .int x3), (4, .int 0)] [.int r15, .int (8 * x1)] m14
        refine x_iadd (dk zX11_findUnseen 81 rfl) ?_
        refine x_topi (fun v16 ev16 => ?_)
        have hv16 := hm14 v16 ev16
        refine x_istoreG (l' := [(0, .ref 123), (1, .int x1), (2, .int x2), (3, .int x3), (4, .int 0), (5, .int v16)]) [1, 2, 3, 4, 5, 0] rfl (by decide) (dk zX11_findUnseen 82 rfl) ?_
        refine x_iload 4 rfl (dk zX11_findUnseen 83 rfl) ?_
        refine x_if_eq (tgt := 183) (by decide) (dk zX11_findUnseen 84 rfl) (fun _ => ?_) (fun c => absurd c (by decide))
        obtain ⟨v17, ev17⟩ : ∃ y : Int32, y = x3 + 1 := ⟨_, rfl⟩
        have hv17 := hv16 v17 ev17
        refine x_iinc (v := v17) (l' := [(0, .ref 123), (1, .int x1), (2, .int x2), (3, .int v17), (4, .int 0), (5, .int v16)]) 3 rfl (by rw [ev17]; rfl) [1, 2, 3, 0, 4, 5] rfl (by decide) (dk zX11_findUnseen 113 rfl) ?_
        refine x_goto (tgt := 76) (by decide) (dk zX11_findUnseen 114 rfl) ?_
        exact x_sub [0, 1, 2, 3] rfl hv17
      · have hc13f := hb12.2 c13
        refine x_iconst (v := 1) (by decide) (dk zX11_findUnseen 71 rfl) ?_
        refine x_goto (tgt := 120) (by decide) (dk zX11_findUnseen 72 rfl) ?_
        refine x_istoreG (l' := [(0, .ref 123), (1, .int x1), (2, .int x2), (3, .int x3), (4, .int 1)]) [1, 2, 3, 4, 0] rfl (by decide) (dk zX11_findUnseen 74 rfl) ?_
        refine x_bipush (v := 8) (by decide) (dk zX11_findUnseen 75 rfl) ?_
        refine x_iload_n 1 rfl rfl (dk zX11_findUnseen 76 rfl) ?_
        refine x_imul (dk zX11_findUnseen 77 rfl) ?_
        refine x_aload_n 0 rfl rfl (dk zX11_findUnseen 78 rfl) ?_
        refine x_iload_n 3 rfl rfl (dk zX11_findUnseen 79 rfl) ?_
        refine x_callV (as := [.int x3]) (o := 123) (ci := 11) (st := [.int (8 * x1)]) rfl okRX11_202 npX11_end ⟨Nat.le_of_ble_eq_true rfl, Nat.le_of_ble_eq_true rfl⟩ k123 (by decide) rfl (Nat.le_of_ble_eq_true rfl) (dk zX11_findUnseen 80 rfl) ?_
        refine hc13f.mono ?_
        rintro _ m18 ⟨r19, rfl, hm18⟩
        show Ex E MX11_findUnseen Q 131 [(0, .ref 123), (1, .int x1), (2, .int x2), (3, .int x3), (4, .int 1)] [.int r19, .int (8 * x1)] m18
        refine x_iadd (dk zX11_findUnseen 81 rfl) ?_
        refine x_topi (fun v20 ev20 => ?_)
        have hv20 := hm18 v20 ev20
        refine x_istoreG (l' := [(0, .ref 123), (1, .int x1), (2, .int x2), (3, .int x3), (4, .int 1), (5, .int v20)]) [1, 2, 3, 4, 5, 0] rfl (by decide) (dk zX11_findUnseen 82 rfl) ?_
        refine x_iload 4 rfl (dk zX11_findUnseen 83 rfl) ?_
        refine x_if_eq (tgt := 183) (by decide) (dk zX11_findUnseen 84 rfl) (fun c => absurd c (by decide)) (fun _ => ?_)
        refine x_aload_n 0 rfl rfl (dk zX11_findUnseen 85 rfl) ?_
        refine gf11_17 (r := 135) rfl k123 r123_17 (dk zX11_findUnseen 86 rfl) ?_
        refine x_iload 5 rfl (dk zX11_findUnseen 87 rfl) ?_
        have b21 := hv20.1
        have hb21 := hv20.2
        refine y_iald (j := v20.toNatClampNeg) k135 l135 b21 rfl (dk zX11_findUnseen 88 rfl) ?_
        refine x_iload_n 2 rfl rfl (dk zX11_findUnseen 89 rfl) ?_
        refine x_icmp_lt (tgt := 183) (by decide) (dk zX11_findUnseen 90 rfl) (fun c22 => ?_) (fun c22 => ?_)
        · have hc22t := hb21.1 c22
          obtain ⟨v23, ev23⟩ : ∃ y : Int32, y = x3 + 1 := ⟨_, rfl⟩
          have hv23 := hc22t v23 ev23
          refine x_iinc (v := v23) (l' := [(0, .ref 123), (1, .int x1), (2, .int x2), (3, .int v23), (4, .int 1), (5, .int v20)]) 3 rfl (by rw [ev23]; rfl) [1, 2, 3, 0, 4, 5] rfl (by decide) (dk zX11_findUnseen 113 rfl) ?_
          refine x_goto (tgt := 76) (by decide) (dk zX11_findUnseen 114 rfl) ?_
          exact x_sub [0, 1, 2, 3] rfl hv23
        · have hc22f := hb21.2 c22
          refine x_aload_n 0 rfl rfl (dk zX11_findUnseen 91 rfl) ?_
          refine gf11_17 (r := 135) rfl k123 r123_17 (dk zX11_findUnseen 92 rfl) ?_
          refine x_iload 5 rfl (dk zX11_findUnseen 93 rfl) ?_
          refine x_iload_n 2 rfl rfl (dk zX11_findUnseen 94 rfl) ?_
          refine y_iast (j := v20.toNatClampNeg) k135 l135 b21 rfl (dk zX11_findUnseen 95 rfl) ?_
          refine x_aload_n 0 rfl rfl (dk zX11_findUnseen 96 rfl) ?_
          refine gf11_18 (r := 136) rfl k123 r123_18 (dk zX11_findUnseen 97 rfl) ?_
          refine x_iload 5 rfl (dk zX11_findUnseen 98 rfl) ?_
          refine x_dup2ri (dk zX11_findUnseen 99 rfl) ?_
          refine y_lald (j := v20.toNatClampNeg) k136 l136 b21 rfl (dk zX11_findUnseen 100 rfl) ?_
          refine x_aload_n 0 rfl rfl (dk zX11_findUnseen 101 rfl) ?_
          refine gf11_18 (r := 136) rfl k123 r123_18 (dk zX11_findUnseen 102 rfl) ?_
          refine x_bipush (v := 8) (by decide) (dk zX11_findUnseen 103 rfl) ?_
          refine x_iload_n 1 rfl rfl (dk zX11_findUnseen 104 rfl) ?_
          refine x_imul (dk zX11_findUnseen 105 rfl) ?_
          refine x_aload_n 0 rfl rfl (dk zX11_findUnseen 106 rfl) ?_
          refine x_iload_n 3 rfl rfl (dk zX11_findUnseen 107 rfl) ?_
          refine x_callV (as := [.int x3]) (o := 123) (ci := 11) (st := [.int (8 * x1), .ref 136, .long ((mI m18 135 v20.toNatClampNeg x2).2 136 v20.toNatClampNeg), .int v20, .ref 136]) rfl okRX11_166 npX11_start ⟨Nat.le_of_ble_eq_true rfl, Nat.le_of_ble_eq_true rfl⟩ k123 (by decide) rfl (Nat.le_of_ble_eq_true rfl) (dk zX11_findUnseen 108 rfl) ?_
          refine hc22f.mono ?_
          rintro _ m24 ⟨r25, rfl, hm24⟩
          show Ex E MX11_findUnseen Q 179 [(0, .ref 123), (1, .int x1), (2, .int x2), (3, .int x3), (4, .int 1), (5, .int v20)] [.int r25, .int (8 * x1), .ref 136, .long ((mI m18 135 v20.toNatClampNeg x2).2 136 v20.toNatClampNeg), .int v20, .ref 136] m24
          refine x_iadd (dk zX11_findUnseen 109 rfl) ?_
          have b26 := hm24.1
          have hb26 := hm24.2
          refine y_lald (j := ((8 * x1) + r25).toNatClampNeg) k136 l136 b26 rfl (dk zX11_findUnseen 110 rfl) ?_
          refine x_ladd (dk zX11_findUnseen 111 rfl) ?_
          refine x_topl (fun v27 ev27 => ?_)
          have hv27 := hb26 v27 ev27
          refine y_last (j := v20.toNatClampNeg) k136 l136 b21 rfl (dk zX11_findUnseen 112 rfl) ?_
          obtain ⟨v28, ev28⟩ : ∃ y : Int32, y = x3 + 1 := ⟨_, rfl⟩
          have hv28 := hv27 v28 ev28
          refine x_iinc (v := v28) (l' := [(0, .ref 123), (1, .int x1), (2, .int x2), (3, .int v28), (4, .int 1), (5, .int v20)]) 3 rfl (by rw [ev28]; rfl) [1, 2, 3, 0, 4, 5] rfl (by decide) (dk zX11_findUnseen 113 rfl) ?_
          refine x_goto (tgt := 76) (by decide) (dk zX11_findUnseen 114 rfl) ?_
          exact x_sub [0, 1, 2, 3] rfl hv28
set_option maxRecDepth 20000 in
set_option maxHeartbeats 2000000 in
theorem gX11_findBetween_0 {E : EV} {Q : Po} {μ : Mem}  (h : Sp E MX11_alike [.ref 123] μ (fun v m1 => ∃ r2 : Int32, v = some (.int r2) ∧ ∀ v3 : Int32, v3 = ((mI m1 123 20 0).1 134 0) - 1 → Ex E MX11_findBetween Q 19 [(0, .ref 123), (1, .int r2), (2, .int v3)] [] (mI m1 123 20 0))) : Ex E MX11_findBetween Q 0 [(0, .ref 123)] [] μ := by
  refine x_aload_n 0 rfl rfl (dk zX11_findBetween 0 rfl) ?_
  refine x_callV (as := []) (o := 123) (ci := 11) (st := []) rfl okRX11_214 npX11_alike ⟨Nat.le_of_ble_eq_true rfl, Nat.le_of_ble_eq_true rfl⟩ k123 (by decide) rfl (Nat.le_of_ble_eq_true rfl) (dk zX11_findBetween 1 rfl) ?_
  refine h.mono ?_
  rintro _ m1 ⟨r2, rfl, hm1⟩
  show Ex E MX11_findBetween Q 4 [(0, .ref 123)] [.int r2] m1
  refine x_istore_n (k := 1) (l' := [(0, .ref 123), (1, .int r2)]) [1, 0] rfl rfl (by decide) (dk zX11_findBetween 2 rfl) ?_
  refine x_aload_n 0 rfl rfl (dk zX11_findBetween 3 rfl) ?_
  refine x_iconst (v := 0) (by decide) (dk zX11_findBetween 4 rfl) ?_
  refine pf11_20 rfl k123 (dk zX11_findBetween 5 rfl) ?_
  refine x_aload_n 0 rfl rfl (dk zX11_findBetween 6 rfl) ?_
  refine gf11_15 (r := 134) rfl k123 r123_15 (dk zX11_findBetween 7 rfl) ?_
  refine x_iconst (v := 0) (by decide) (dk zX11_findBetween 8 rfl) ?_
  refine y_iald (j := 0) k134 l134 (by unfold vp_in; decide) (by decide) (dk zX11_findBetween 9 rfl) ?_
  refine x_iconst (v := 1) (by decide) (dk zX11_findBetween 10 rfl) ?_
  refine x_isub (dk zX11_findBetween 11 rfl) ?_
  refine x_topi (fun v3 ev3 => ?_)
  have hv3 := hm1 v3 ev3
  refine x_istore_n (k := 2) (l' := [(0, .ref 123), (1, .int r2), (2, .int v3)]) [1, 2, 0] rfl rfl (by decide) (dk zX11_findBetween 12 rfl) ?_
  exact hv3
set_option maxRecDepth 20000 in
set_option maxHeartbeats 2000000 in
theorem gX11_findBetween_19 {E : EV} {Q : Po} {μ : Mem} {x1 : Int32} {x2 : Int32} (h : ((x2 < x1 → Ex E MX11_findBetween Q 60 [(0, .ref 123), (1, .int x1), (2, .int x1)] [] μ) ∧ (¬ x2 < x1 → vp_in x2 120 ∧ (Sp E MX11_back [.int (μ.1 133 x2.toNatClampNeg)] μ (fun v m3 => ∃ r4 : Int32, v = some (.int r4) ∧ vp_in (μ.1 123 20) 120 ∧ (∀ v6 : Int32, v6 = ((mI m3 137 ((μ.1 123 20).toNatClampNeg) r4).1 123 20) + 1 → ∀ v7 : Int32, v7 = x2 + (-1) → Ex E MX11_findBetween Q 19 [(0, .ref 123), (1, .int x1), (2, .int v7)] [] (mI (mI m3 137 ((μ.1 123 20).toNatClampNeg) r4) 123 20 v6))))))) : Ex E MX11_findBetween Q 19 [(0, .ref 123), (1, .int x1), (2, .int x2)] [] μ := by
  refine x_iload_n 2 rfl rfl (dk zX11_findBetween 13 rfl) ?_
  refine x_iload_n 1 rfl rfl (dk zX11_findBetween 14 rfl) ?_
  refine x_icmp_lt (tgt := 58) (by decide) (dk zX11_findBetween 15 rfl) (fun c1 => ?_) (fun c1 => ?_)
  · have hc1t := h.1 c1
    refine x_iload_n 1 rfl rfl (dk zX11_findBetween 34 rfl) ?_
    refine x_istore_n (k := 2) (l' := [(0, .ref 123), (1, .int x1), (2, .int x1)]) [1, 2, 0] rfl rfl (by decide) (dk zX11_findBetween 35 rfl) ?_
    exact hc1t
  · have hc1f := h.2 c1
    refine x_aload_n 0 rfl rfl (dk zX11_findBetween 16 rfl) ?_
    refine gf11_19 (r := 137) rfl k123 r123_19 (dk zX11_findBetween 17 rfl) ?_
    refine x_aload_n 0 rfl rfl (dk zX11_findBetween 18 rfl) ?_
    refine gf11_20 rfl k123 (dk zX11_findBetween 19 rfl) ?_
    refine x_aload_n 0 rfl rfl (dk zX11_findBetween 20 rfl) ?_
    refine gf11_14 (r := 133) rfl k123 r123_14 (dk zX11_findBetween 21 rfl) ?_
    refine x_iload_n 2 rfl rfl (dk zX11_findBetween 22 rfl) ?_
    have b2 := hc1f.1
    have hb2 := hc1f.2
    refine y_iald (j := x2.toNatClampNeg) k133 l133 b2 rfl (dk zX11_findBetween 23 rfl) ?_
    refine x_callS (as := [.int (μ.1 133 x2.toNatClampNeg)]) (st := [.int (μ.1 123 20), .ref 137]) rfl okRX11_177 npX11_back ⟨Nat.le_of_ble_eq_true rfl, Nat.le_of_ble_eq_true rfl⟩ (Nat.le_of_ble_eq_true rfl) (dk zX11_findBetween 24 rfl) ?_
    refine hb2.mono ?_
    rintro _ m3 ⟨r4, rfl, hm3⟩
    show Ex E MX11_findBetween Q 41 [(0, .ref 123), (1, .int x1), (2, .int x2)] [.int r4, .int (μ.1 123 20), .ref 137] m3
    have b5 := hm3.1
    have hb5 := hm3.2
    refine y_iast (j := (μ.1 123 20).toNatClampNeg) k137 l137 b5 rfl (dk zX11_findBetween 25 rfl) ?_
    refine x_aload_n 0 rfl rfl (dk zX11_findBetween 26 rfl) ?_
    refine x_dupr (dk zX11_findBetween 27 rfl) ?_
    refine gf11_20 rfl k123 (dk zX11_findBetween 28 rfl) ?_
    refine x_iconst (v := 1) (by decide) (dk zX11_findBetween 29 rfl) ?_
    refine x_iadd (dk zX11_findBetween 30 rfl) ?_
    refine x_topi (fun v6 ev6 => ?_)
    have hv6 := hb5 v6 ev6
    refine pf11_20 rfl k123 (dk zX11_findBetween 31 rfl) ?_
    obtain ⟨v7, ev7⟩ : ∃ y : Int32, y = x2 + (-1) := ⟨_, rfl⟩
    have hv7 := hv6 v7 ev7
    refine x_iinc (v := v7) (l' := [(0, .ref 123), (1, .int x1), (2, .int v7)]) 2 rfl (by rw [ev7]; rfl) [1, 2, 0] rfl (by decide) (dk zX11_findBetween 32 rfl) ?_
    refine x_goto (tgt := 19) (by decide) (dk zX11_findBetween 33 rfl) ?_
    exact hv7
set_option maxRecDepth 20000 in
set_option maxHeartbeats 2000000 in
theorem gX11_findBetween_60 {E : EV} {Q : Po} {μ : Mem} {x1 : Int32} {x2 : Int32} (h : (((μ.1 134 1) ≤ x2 → Q none μ) ∧ (¬ (μ.1 134 1) ≤ x2 → vp_in (60 + x2) 120 ∧ (∀ v3 : Int32, v3 = μ.1 133 ((60 + x2).toNatClampNeg) → vp_in (μ.1 123 20) 120 ∧ (∀ v5 : Int32, v5 = ((mI μ 137 ((μ.1 123 20).toNatClampNeg) v3).1 123 20) + 1 → ∀ v6 : Int32, v6 = x2 + 1 → Ex E MX11_findBetween Q 60 [(0, .ref 123), (1, .int x1), (2, .int v6)] [] (mI (mI μ 137 ((μ.1 123 20).toNatClampNeg) v3) 123 20 v5)))))) : Ex E MX11_findBetween Q 60 [(0, .ref 123), (1, .int x1), (2, .int x2)] [] μ := by
  refine x_iload_n 2 rfl rfl (dk zX11_findBetween 36 rfl) ?_
  refine x_aload_n 0 rfl rfl (dk zX11_findBetween 37 rfl) ?_
  refine gf11_15 (r := 134) rfl k123 r123_15 (dk zX11_findBetween 38 rfl) ?_
  refine x_iconst (v := 1) (by decide) (dk zX11_findBetween 39 rfl) ?_
  refine y_iald (j := 1) k134 l134 (by unfold vp_in; decide) (by decide) (dk zX11_findBetween 40 rfl) ?_
  refine x_icmp_ge (tgt := 104) (by decide) (dk zX11_findBetween 41 rfl) (fun c1 => ?_) (fun c1 => ?_)
  · have hc1t := h.1 c1
    exact x_vret rfl (dk zX11_findBetween 61 rfl) hc1t
  · have hc1f := h.2 c1
    refine x_aload_n 0 rfl rfl (dk zX11_findBetween 42 rfl) ?_
    refine gf11_19 (r := 137) rfl k123 r123_19 (dk zX11_findBetween 43 rfl) ?_
    refine x_aload_n 0 rfl rfl (dk zX11_findBetween 44 rfl) ?_
    refine gf11_20 rfl k123 (dk zX11_findBetween 45 rfl) ?_
    refine x_aload_n 0 rfl rfl (dk zX11_findBetween 46 rfl) ?_
    refine gf11_14 (r := 133) rfl k123 r123_14 (dk zX11_findBetween 47 rfl) ?_
    refine x_bipush (v := 60) (by decide) (dk zX11_findBetween 48 rfl) ?_
    refine x_iload_n 2 rfl rfl (dk zX11_findBetween 49 rfl) ?_
    refine x_iadd (dk zX11_findBetween 50 rfl) ?_
    have b2 := hc1f.1
    have hb2 := hc1f.2
    refine y_iald (j := (60 + x2).toNatClampNeg) k133 l133 b2 rfl (dk zX11_findBetween 51 rfl) ?_
    refine x_topi (fun v3 ev3 => ?_)
    have hv3 := hb2 v3 ev3
    have b4 := hv3.1
    have hb4 := hv3.2
    refine y_iast (j := (μ.1 123 20).toNatClampNeg) k137 l137 b4 rfl (dk zX11_findBetween 52 rfl) ?_
    refine x_aload_n 0 rfl rfl (dk zX11_findBetween 53 rfl) ?_
    refine x_dupr (dk zX11_findBetween 54 rfl) ?_
    refine gf11_20 rfl k123 (dk zX11_findBetween 55 rfl) ?_
    refine x_iconst (v := 1) (by decide) (dk zX11_findBetween 56 rfl) ?_
    refine x_iadd (dk zX11_findBetween 57 rfl) ?_
    refine x_topi (fun v5 ev5 => ?_)
    have hv5 := hb4 v5 ev5
    refine pf11_20 rfl k123 (dk zX11_findBetween 58 rfl) ?_
    obtain ⟨v6, ev6⟩ : ∃ y : Int32, y = x2 + 1 := ⟨_, rfl⟩
    have hv6 := hv5 v6 ev6
    refine x_iinc (v := v6) (l' := [(0, .ref 123), (1, .int x1), (2, .int v6)]) 2 rfl (by rw [ev6]; rfl) [1, 2, 0] rfl (by decide) (dk zX11_findBetween 59 rfl) ?_
    refine x_goto (tgt := 60) (by decide) (dk zX11_findBetween 60 rfl) ?_
    exact hv6
set_option maxRecDepth 20000 in
set_option maxHeartbeats 2000000 in
theorem gX11_goesOn_0 {E : EV} {Q : Po} {μ : Mem} {x1 : Int32} {x2 : Int32} (h : (((μ.1 123 23) = 0 → vp_in ((8 * x1) + x2) 64 ∧ (∀ v3 : Int32, v3 = ((mI μ 123 23 0).1 123 21) + ((mI μ 123 23 0).1 135 (((8 * x1) + x2).toNatClampNeg)) → ∀ v4 : Int64, v4 = ((mI (mI μ 123 23 0) 123 21 v3).2 123 22) * ((mI (mI μ 123 23 0) 123 21 v3).2 136 (((8 * x1) + x2).toNatClampNeg)) → Q none (mJ (mI (mI μ 123 23 0) 123 21 v3) 123 22 v4))) ∧ (¬ (μ.1 123 23) = 0 → vp_in ((8 * x1) + x2) 64 ∧ (((1000 ≤ (μ.1 135 (((8 * x1) + x2).toNatClampNeg)) → ∀ v7 : Int32, v7 = ((mI μ 123 23 0).1 123 21) + ((mI μ 123 23 0).1 135 (((8 * x1) + x2).toNatClampNeg)) → ∀ v8 : Int64, v8 = ((mI (mI μ 123 23 0) 123 21 v7).2 123 22) * ((mI (mI μ 123 23 0) 123 21 v7).2 136 (((8 * x1) + x2).toNatClampNeg)) → Q none (mJ (mI (mI μ 123 23 0) 123 21 v7) 123 22 v8)) ∧ (¬ 1000 ≤ (μ.1 135 (((8 * x1) + x2).toNatClampNeg)) → ∀ v9 : Int32, v9 = ((mI μ 123 23 1).1 123 21) + ((mI μ 123 23 1).1 135 (((8 * x1) + x2).toNatClampNeg)) → ∀ v10 : Int64, v10 = ((mI (mI μ 123 23 1) 123 21 v9).2 123 22) * ((mI (mI μ 123 23 1) 123 21 v9).2 136 (((8 * x1) + x2).toNatClampNeg)) → Q none (mJ (mI (mI μ 123 23 1) 123 21 v9) 123 22 v10))))))) : Ex E MX11_goesOn Q 0 [(0, .ref 123), (1, .int x1), (2, .int x2)] [] μ := by
  refine x_aload_n 0 rfl rfl (dk zX11_goesOn 0 rfl) ?_
  refine x_aload_n 0 rfl rfl (dk zX11_goesOn 1 rfl) ?_
  refine gf11_23 rfl k123 (dk zX11_goesOn 2 rfl) ?_
  refine x_if_eq (tgt := 29) (by decide) (dk zX11_goesOn 3 rfl) (fun c1 => ?_) (fun c1 => ?_)
  · have hc1t := h.1 c1
    refine x_iconst (v := 0) (by decide) (dk zX11_goesOn 16 rfl) ?_
    refine pf11_23 rfl k123 (by decide) (dk zX11_goesOn 17 rfl) ?_
    refine x_aload_n 0 rfl rfl (dk zX11_goesOn 18 rfl) ?_
    refine x_dupr (dk zX11_goesOn 19 rfl) ?_
    refine gf11_21 rfl k123 (dk zX11_goesOn 20 rfl) ?_
    refine x_aload_n 0 rfl rfl (dk zX11_goesOn 21 rfl) ?_
    refine gf11_17 (r := 135) rfl k123 r123_17 (dk zX11_goesOn 22 rfl) ?_
    refine x_bipush (v := 8) (by decide) (dk zX11_goesOn 23 rfl) ?_
    refine x_iload_n 1 rfl rfl (dk zX11_goesOn 24 rfl) ?_
    refine x_imul (dk zX11_goesOn 25 rfl) ?_
    refine x_iload_n 2 rfl rfl (dk zX11_goesOn 26 rfl) ?_
    refine x_iadd (dk zX11_goesOn 27 rfl) ?_
    have b2 := hc1t.1
    have hb2 := hc1t.2
    refine y_iald (j := ((8 * x1) + x2).toNatClampNeg) k135 l135 b2 rfl (dk zX11_goesOn 28 rfl) ?_
    refine x_iadd (dk zX11_goesOn 29 rfl) ?_
    refine x_topi (fun v3 ev3 => ?_)
    have hv3 := hb2 v3 ev3
    refine pf11_21 rfl k123 (dk zX11_goesOn 30 rfl) ?_
    refine x_aload_n 0 rfl rfl (dk zX11_goesOn 31 rfl) ?_
    refine x_dupr (dk zX11_goesOn 32 rfl) ?_
    refine gf11_22 rfl k123 (dk zX11_goesOn 33 rfl) ?_
    refine x_aload_n 0 rfl rfl (dk zX11_goesOn 34 rfl) ?_
    refine gf11_18 (r := 136) rfl k123 r123_18 (dk zX11_goesOn 35 rfl) ?_
    refine x_bipush (v := 8) (by decide) (dk zX11_goesOn 36 rfl) ?_
    refine x_iload_n 1 rfl rfl (dk zX11_goesOn 37 rfl) ?_
    refine x_imul (dk zX11_goesOn 38 rfl) ?_
    refine x_iload_n 2 rfl rfl (dk zX11_goesOn 39 rfl) ?_
    refine x_iadd (dk zX11_goesOn 40 rfl) ?_
    refine y_lald (j := ((8 * x1) + x2).toNatClampNeg) k136 l136 b2 rfl (dk zX11_goesOn 41 rfl) ?_
    refine x_lmul (dk zX11_goesOn 42 rfl) ?_
    refine x_topl (fun v4 ev4 => ?_)
    have hv4 := hv3 v4 ev4
    refine pf11_22 rfl k123 (dk zX11_goesOn 43 rfl) ?_
    exact x_vret rfl (dk zX11_goesOn 44 rfl) hv4
  · have hc1f := h.2 c1
    refine x_aload_n 0 rfl rfl (dk zX11_goesOn 4 rfl) ?_
    refine gf11_17 (r := 135) rfl k123 r123_17 (dk zX11_goesOn 5 rfl) ?_
    refine x_bipush (v := 8) (by decide) (dk zX11_goesOn 6 rfl) ?_
    refine x_iload_n 1 rfl rfl (dk zX11_goesOn 7 rfl) ?_
    refine x_imul (dk zX11_goesOn 8 rfl) ?_
    refine x_iload_n 2 rfl rfl (dk zX11_goesOn 9 rfl) ?_
    refine x_iadd (dk zX11_goesOn 10 rfl) ?_
    have b5 := hc1f.1
    have hb5 := hc1f.2
    refine y_iald (j := ((8 * x1) + x2).toNatClampNeg) k135 l135 b5 rfl (dk zX11_goesOn 11 rfl) ?_
    refine x_sipush (v := 1000) (by decide) (dk zX11_goesOn 12 rfl) ?_
    refine x_icmp_ge (tgt := 29) (by decide) (dk zX11_goesOn 13 rfl) (fun c6 => ?_) (fun c6 => ?_)
    · have hc6t := hb5.1 c6
      refine x_iconst (v := 0) (by decide) (dk zX11_goesOn 16 rfl) ?_
      refine pf11_23 rfl k123 (by decide) (dk zX11_goesOn 17 rfl) ?_
      refine x_aload_n 0 rfl rfl (dk zX11_goesOn 18 rfl) ?_
      refine x_dupr (dk zX11_goesOn 19 rfl) ?_
      refine gf11_21 rfl k123 (dk zX11_goesOn 20 rfl) ?_
      refine x_aload_n 0 rfl rfl (dk zX11_goesOn 21 rfl) ?_
      refine gf11_17 (r := 135) rfl k123 r123_17 (dk zX11_goesOn 22 rfl) ?_
      refine x_bipush (v := 8) (by decide) (dk zX11_goesOn 23 rfl) ?_
      refine x_iload_n 1 rfl rfl (dk zX11_goesOn 24 rfl) ?_
      refine x_imul (dk zX11_goesOn 25 rfl) ?_
      refine x_iload_n 2 rfl rfl (dk zX11_goesOn 26 rfl) ?_
      refine x_iadd (dk zX11_goesOn 27 rfl) ?_
      refine y_iald (j := ((8 * x1) + x2).toNatClampNeg) k135 l135 b5 rfl (dk zX11_goesOn 28 rfl) ?_
      refine x_iadd (dk zX11_goesOn 29 rfl) ?_
      refine x_topi (fun v7 ev7 => ?_)
      have hv7 := hc6t v7 ev7
      refine pf11_21 rfl k123 (dk zX11_goesOn 30 rfl) ?_
      refine x_aload_n 0 rfl rfl (dk zX11_goesOn 31 rfl) ?_
      refine x_dupr (dk zX11_goesOn 32 rfl) ?_
      refine gf11_22 rfl k123 (dk zX11_goesOn 33 rfl) ?_
      refine x_aload_n 0 rfl rfl (dk zX11_goesOn 34 rfl) ?_
      refine gf11_18 (r := 136) rfl k123 r123_18 (dk zX11_goesOn 35 rfl) ?_
      refine x_bipush (v := 8) (by decide) (dk zX11_goesOn 36 rfl) ?_
      refine x_iload_n 1 rfl rfl (dk zX11_goesOn 37 rfl) ?_
      refine x_imul (dk zX11_goesOn 38 rfl) ?_
      refine x_iload_n 2 rfl rfl (dk zX11_goesOn 39 rfl) ?_
      refine x_iadd (dk zX11_goesOn 40 rfl) ?_
      refine y_lald (j := ((8 * x1) + x2).toNatClampNeg) k136 l136 b5 rfl (dk zX11_goesOn 41 rfl) ?_
      refine x_lmul (dk zX11_goesOn 42 rfl) ?_
      refine x_topl (fun v8 ev8 => ?_)
      have hv8 := hv7 v8 ev8
      refine pf11_22 rfl k123 (dk zX11_goesOn 43 rfl) ?_
      exact x_vret rfl (dk zX11_goesOn 44 rfl) hv8
    · have hc6f := hb5.2 c6
      refine x_iconst (v := 1) (by decide) (dk zX11_goesOn 14 rfl) ?_
      refine x_goto (tgt := 30) (by decide) (dk zX11_goesOn 15 rfl) ?_
      refine pf11_23 rfl k123 (by decide) (dk zX11_goesOn 17 rfl) ?_
      refine x_aload_n 0 rfl rfl (dk zX11_goesOn 18 rfl) ?_
      refine x_dupr (dk zX11_goesOn 19 rfl) ?_
      refine gf11_21 rfl k123 (dk zX11_goesOn 20 rfl) ?_
      refine x_aload_n 0 rfl rfl (dk zX11_goesOn 21 rfl) ?_
      refine gf11_17 (r := 135) rfl k123 r123_17 (dk zX11_goesOn 22 rfl) ?_
      refine x_bipush (v := 8) (by decide) (dk zX11_goesOn 23 rfl) ?_
      refine x_iload_n 1 rfl rfl (dk zX11_goesOn 24 rfl) ?_
      refine x_imul (dk zX11_goesOn 25 rfl) ?_
      refine x_iload_n 2 rfl rfl (dk zX11_goesOn 26 rfl) ?_
      refine x_iadd (dk zX11_goesOn 27 rfl) ?_
      refine y_iald (j := ((8 * x1) + x2).toNatClampNeg) k135 l135 b5 rfl (dk zX11_goesOn 28 rfl) ?_
      refine x_iadd (dk zX11_goesOn 29 rfl) ?_
      refine x_topi (fun v9 ev9 => ?_)
      have hv9 := hc6f v9 ev9
      refine pf11_21 rfl k123 (dk zX11_goesOn 30 rfl) ?_
      refine x_aload_n 0 rfl rfl (dk zX11_goesOn 31 rfl) ?_
      refine x_dupr (dk zX11_goesOn 32 rfl) ?_
      refine gf11_22 rfl k123 (dk zX11_goesOn 33 rfl) ?_
      refine x_aload_n 0 rfl rfl (dk zX11_goesOn 34 rfl) ?_
      refine gf11_18 (r := 136) rfl k123 r123_18 (dk zX11_goesOn 35 rfl) ?_
      refine x_bipush (v := 8) (by decide) (dk zX11_goesOn 36 rfl) ?_
      refine x_iload_n 1 rfl rfl (dk zX11_goesOn 37 rfl) ?_
      refine x_imul (dk zX11_goesOn 38 rfl) ?_
      refine x_iload_n 2 rfl rfl (dk zX11_goesOn 39 rfl) ?_
      refine x_iadd (dk zX11_goesOn 40 rfl) ?_
      refine y_lald (j := ((8 * x1) + x2).toNatClampNeg) k136 l136 b5 rfl (dk zX11_goesOn 41 rfl) ?_
      refine x_lmul (dk zX11_goesOn 42 rfl) ?_
      refine x_topl (fun v10 ev10 => ?_)
      have hv10 := hv9 v10 ev10
      refine pf11_22 rfl k123 (dk zX11_goesOn 43 rfl) ?_
      exact x_vret rfl (dk zX11_goesOn 44 rfl) hv10
set_option maxRecDepth 20000 in
set_option maxHeartbeats 2000000 in
theorem gX11_findShortest_0 {E : EV} {Q : Po} {μ : Mem} {x1 : Int32} {x2 : Int32} {x3 : Int32} {x4 : Int32} (h : Sp E MX11_findPaper [.ref 123, .int 0, .int x2] μ (fun v m1 => v = none ∧ Sp E MX11_findPaper [.ref 123, .int 1, .int x4] m1 (fun v m2 => v = none ∧ Sp E MX11_findUnseen [.ref 123] m2 (fun v m3 => v = none ∧ Sp E MX11_findBetween [.ref 123] m3 (fun v m4 => v = none ∧ ((((mI m4 123 21 0).1 123 12) < ((mI m4 123 21 0).1 134 0) → Ex E MX11_findShortest Q 72 [(0, .ref 123), (1, .int x1), (2, .int x2), (3, .int x3), (4, .int x4), (5, .int x1), (6, .int 0)] [] (mJ (mI (mI m4 123 21 0) 123 23 0) 123 22 1)) ∧ (¬ ((mI m4 123 21 0).1 123 12) < ((mI m4 123 21 0).1 134 0) → ((((mI m4 123 21 0).1 123 12) < ((mI m4 123 21 0).1 134 1) → Ex E MX11_findShortest Q 72 [(0, .ref 123), (1, .int x1), (2, .int x2), (3, .int x3), (4, .int x4), (5, .int x1), (6, .int 0)] [] (mJ (mI (mI m4 123 21 0) 123 23 0) 123 22 1)) ∧ (¬ ((mI m4 123 21 0).1 123 12) < ((mI m4 123 21 0).1 134 1) → Ex E MX11_findShortest Q 72 [(0, .ref 123), (1, .int x1), (2, .int x2), (3, .int x3), (4, .int x4), (5, .int x1), (6, .int 0)] [] (mJ (mI (mI m4 123 21 0) 123 23 1) 123 22 1)))))))))) : Ex E MX11_findShortest Q 0 [(0, .ref 123), (1, .int x1), (2, .int x2), (3, .int x3), (4, .int x4)] [] μ := by
  refine x_aload_n 0 rfl rfl (dk zX11_findShortest 0 rfl) ?_
  refine x_iconst (v := 0) (by decide) (dk zX11_findShortest 1 rfl) ?_
  refine x_iload_n 2 rfl rfl (dk zX11_findShortest 2 rfl) ?_
  refine x_callV (as := [.int 0, .int x2]) (o := 123) (ci := 11) (st := []) rfl okRX11_196 npX11_findPaper ⟨Nat.le_of_ble_eq_true rfl, Nat.le_of_ble_eq_true rfl⟩ k123 (by decide) rfl (Nat.le_of_ble_eq_true rfl) (dk zX11_findShortest 3 rfl) ?_
  refine h.mono ?_
  rintro _ m1 ⟨rfl, hm1⟩
  show Ex E MX11_findShortest Q 6 [(0, .ref 123), (1, .int x1), (2, .int x2), (3, .int x3), (4, .int x4)] [] m1
  refine x_aload_n 0 rfl rfl (dk zX11_findShortest 4 rfl) ?_
  refine x_iconst (v := 1) (by decide) (dk zX11_findShortest 5 rfl) ?_
  refine x_iload 4 rfl (dk zX11_findShortest 6 rfl) ?_
  refine x_callV (as := [.int 1, .int x4]) (o := 123) (ci := 11) (st := []) rfl okRX11_196 npX11_findPaper ⟨Nat.le_of_ble_eq_true rfl, Nat.le_of_ble_eq_true rfl⟩ k123 (by decide) rfl (Nat.le_of_ble_eq_true rfl) (dk zX11_findShortest 7 rfl) ?_
  refine hm1.mono ?_
  rintro _ m2 ⟨rfl, hm2⟩
  show Ex E MX11_findShortest Q 13 [(0, .ref 123), (1, .int x1), (2, .int x2), (3, .int x3), (4, .int x4)] [] m2
  refine x_aload_n 0 rfl rfl (dk zX11_findShortest 8 rfl) ?_
  refine x_callV (as := []) (o := 123) (ci := 11) (st := []) rfl okRX11_226 npX11_findUnseen ⟨Nat.le_of_ble_eq_true rfl, Nat.le_of_ble_eq_true rfl⟩ k123 (by decide) rfl (Nat.le_of_ble_eq_true rfl) (dk zX11_findShortest 9 rfl) ?_
  refine hm2.mono ?_
  rintro _ m3 ⟨rfl, hm3⟩
  show Ex E MX11_findShortest Q 17 [(0, .ref 123), (1, .int x1), (2, .int x2), (3, .int x3), (4, .int x4)] [] m3
  refine x_aload_n 0 rfl rfl (dk zX11_findShortest 10 rfl) ?_
  refine x_callV (as := []) (o := 123) (ci := 11) (st := []) rfl okRX11_229 npX11_findBetween ⟨Nat.le_of_ble_eq_true rfl, Nat.le_of_ble_eq_true rfl⟩ k123 (by decide) rfl (Nat.le_of_ble_eq_true rfl) (dk zX11_findShortest 11 rfl) ?_
  refine hm3.mono ?_
  rintro _ m4 ⟨rfl, hm4⟩
  show Ex E MX11_findShortest Q 21 [(0, .ref 123), (1, .int x1), (2, .int x2), (3, .int x3), (4, .int x4)] [] m4
  refine x_aload_n 0 rfl rfl (dk zX11_findShortest 12 rfl) ?_
  refine x_iconst (v := 0) (by decide) (dk zX11_findShortest 13 rfl) ?_
  refine pf11_21 rfl k123 (dk zX11_findShortest 14 rfl) ?_
  refine x_aload_n 0 rfl rfl (dk zX11_findShortest 15 rfl) ?_
  refine x_aload_n 0 rfl rfl (dk zX11_findShortest 16 rfl) ?_
  refine gf11_15 (r := 134) rfl k123 r123_15 (dk zX11_findShortest 17 rfl) ?_
  refine x_iconst (v := 0) (by decide) (dk zX11_findShortest 18 rfl) ?_
  refine y_iald (j := 0) k134 l134 (by unfold vp_in; decide) (by decide) (dk zX11_findShortest 19 rfl) ?_
  refine x_aload_n 0 rfl rfl (dk zX11_findShortest 20 rfl) ?_
  refine gf11_12 rfl k123 (dk zX11_findShortest 21 rfl) ?_
  refine x_icmp_gt (tgt := 57) (by decide) (dk zX11_findShortest 22 rfl) (fun c5 => ?_) (fun c5 => ?_)
  · have hc5t := hm4.1 c5
    refine x_iconst (v := 0) (by decide) (dk zX11_findShortest 32 rfl) ?_
    refine pf11_23 rfl k123 (by decide) (dk zX11_findShortest 33 rfl) ?_
    refine x_aload_n 0 rfl rfl (dk zX11_findShortest 34 rfl) ?_
    refine x_lconst (v := 1) (by decide) (dk zX11_findShortest 35 rfl) ?_
    refine pf11_22 rfl k123 (dk zX11_findShortest 36 rfl) ?_
    refine x_iload_n 1 rfl rfl (dk zX11_findShortest 37 rfl) ?_
    refine x_istoreG (l' := [(0, .ref 123), (1, .int x1), (2, .int x2), (3, .int x3), (4, .int x4), (5, .int x1)]) [1, 2, 3, 4, 5, 0] rfl (by decide) (dk zX11_findShortest 38 rfl) ?_
    refine x_iconst (v := 0) (by decide) (dk zX11_findShortest 39 rfl) ?_
    refine x_istoreG (l' := [(0, .ref 123), (1, .int x1), (2, .int x2), (3, .int x3), (4, .int x4), (5, .int x1), (6, .int 0)]) [1, 2, 3, 4, 5, 6, 0] rfl (by decide) (dk zX11_findShortest 40 rfl) ?_
    exact hc5t
  · have hc5f := hm4.2 c5
    refine x_aload_n 0 rfl rfl (dk zX11_findShortest 23 rfl) ?_
    refine gf11_15 (r := 134) rfl k123 r123_15 (dk zX11_findShortest 24 rfl) ?_
    refine x_iconst (v := 1) (by decide) (dk zX11_findShortest 25 rfl) ?_
    refine y_iald (j := 1) k134 l134 (by unfold vp_in; decide) (by decide) (dk zX11_findShortest 26 rfl) ?_
    refine x_aload_n 0 rfl rfl (dk zX11_findShortest 27 rfl) ?_
    refine gf11_12 rfl k123 (dk zX11_findShortest 28 rfl) ?_
    refine x_icmp_gt (tgt := 57) (by decide) (dk zX11_findShortest 29 rfl) (fun c6 => ?_) (fun c6 => ?_)
    · have hc6t := hc5f.1 c6
      refine x_iconst (v := 0) (by decide) (dk zX11_findShortest 32 rfl) ?_
      refine pf11_23 rfl k123 (by decide) (dk zX11_findShortest 33 rfl) ?_
      refine x_aload_n 0 rfl rfl (dk zX11_findShortest 34 rfl) ?_
      refine x_lconst (v := 1) (by decide) (dk zX11_findShortest 35 rfl) ?_
      refine pf11_22 rfl k123 (dk zX11_findShortest 36 rfl) ?_
      refine x_iload_n 1 rfl rfl (dk zX11_findShortest 37 rfl) ?_
      refine x_istoreG (l' := [(0, .ref 123), (1, .int x1), (2, .int x2), (3, .int x3), (4, .int x4), (5, .int x1)]) [1, 2, 3, 4, 5, 0] rfl (by decide) (dk zX11_findShortest 38 rfl) ?_
      refine x_iconst (v := 0) (by decide) (dk zX11_findShortest 39 rfl) ?_
      refine x_istoreG (l' := [(0, .ref 123), (1, .int x1), (2, .int x2), (3, .int x3), (4, .int x4), (5, .int x1), (6, .int 0)]) [1, 2, 3, 4, 5, 6, 0] rfl (by decide) (dk zX11_findShortest 40 rfl) ?_
      exact hc6t
    · have hc6f := hc5f.2 c6
      refine x_iconst (v := 1) (by decide) (dk zX11_findShortest 30 rfl) ?_
      refine x_goto (tgt := 58) (by decide) (dk zX11_findShortest 31 rfl) ?_
      refine pf11_23 rfl k123 (by decide) (dk zX11_findShortest 33 rfl) ?_
      refine x_aload_n 0 rfl rfl (dk zX11_findShortest 34 rfl) ?_
      refine x_lconst (v := 1) (by decide) (dk zX11_findShortest 35 rfl) ?_
      refine pf11_22 rfl k123 (dk zX11_findShortest 36 rfl) ?_
      refine x_iload_n 1 rfl rfl (dk zX11_findShortest 37 rfl) ?_
      refine x_istoreG (l' := [(0, .ref 123), (1, .int x1), (2, .int x2), (3, .int x3), (4, .int x4), (5, .int x1)]) [1, 2, 3, 4, 5, 0] rfl (by decide) (dk zX11_findShortest 38 rfl) ?_
      refine x_iconst (v := 0) (by decide) (dk zX11_findShortest 39 rfl) ?_
      refine x_istoreG (l' := [(0, .ref 123), (1, .int x1), (2, .int x2), (3, .int x3), (4, .int x4), (5, .int x1), (6, .int 0)]) [1, 2, 3, 4, 5, 6, 0] rfl (by decide) (dk zX11_findShortest 40 rfl) ?_
      exact hc6f
set_option maxRecDepth 20000 in
set_option maxHeartbeats 2000000 in
theorem gX11_findShortest_72 {E : EV} {Q : Po} {μ : Mem} {x1 : Int32} {x2 : Int32} {x3 : Int32} {x4 : Int32} {x5 : Int32} {x6 : Int32} (h : (((μ.1 123 20) ≤ x6 → Sp E MX11_goesOn [.ref 123, .int x5, .int x3] μ (fun v m2 => v = none ∧ Q none m2)) ∧ (¬ (μ.1 123 20) ≤ x6 → vp_in x6 120 ∧ (∀ v4 : Int32, v4 = μ.1 137 x6.toNatClampNeg → Sp E MX11_start [.ref 123, .int v4] μ (fun v m5 => ∃ r6 : Int32, v = some (.int r6) ∧ Sp E MX11_goesOn [.ref 123, .int x5, .int r6] m5 (fun v m7 => v = none ∧ (((m7.1 123 23) = 0 → ∀ v9 : Int32, v9 = ((mI m7 123 23 0).1 123 21) + 1 → Sp E MX11_end [.ref 123, .int v4] (mI (mI m7 123 23 0) 123 21 v9) (fun v m10 => ∃ r11 : Int32, v = some (.int r11) ∧ ∀ v12 : Int32, v12 = x6 + 1 → Ex E MX11_findShortest Q 72 [(0, .ref 123), (1, .int x1), (2, .int x2), (3, .int x3), (4, .int x4), (5, .int r11), (6, .int v12)] [] m10)) ∧ (¬ (m7.1 123 23) = 0 → Sp E MX11_isShut [.ref 123, .int (v4 / 2)] m7 (fun v m13 => ∃ r14 : Int32, v = some (.int r14) ∧ ((¬ r14 = 0 → ∀ v16 : Int32, v16 = ((mI m13 123 23 0).1 123 21) + 1 → Sp E MX11_end [.ref 123, .int v4] (mI (mI m13 123 23 0) 123 21 v16) (fun v m17 => ∃ r18 : Int32, v = some (.int r18) ∧ ∀ v19 : Int32, v19 = x6 + 1 → Ex E MX11_findShortest Q 72 [(0, .ref 123), (1, .int x1), (2, .int x2), (3, .int x3), (4, .int x4), (5, .int r18), (6, .int v19)] [] m17)) ∧ (r14 = 0 → ∀ v20 : Int32, v20 = ((mI m13 123 23 1).1 123 21) + 1 → Sp E MX11_end [.ref 123, .int v4] (mI (mI m13 123 23 1) 123 21 v20) (fun v m21 => ∃ r22 : Int32, v = some (.int r22) ∧ ∀ v23 : Int32, v23 = x6 + 1 → Ex E MX11_findShortest Q 72 [(0, .ref 123), (1, .int x1), (2, .int x2), (3, .int x3), (4, .int x4), (5, .int r22), (6, .int v23)] [] m21)))))))))))) : Ex E MX11_findShortest Q 72 [(0, .ref 123), (1, .int x1), (2, .int x2), (3, .int x3), (4, .int x4), (5, .int x5), (6, .int x6)] [] μ := by
  refine x_iload 6 rfl (dk zX11_findShortest 41 rfl) ?_
  refine x_aload_n 0 rfl rfl (dk zX11_findShortest 42 rfl) ?_
  refine gf11_20 rfl k123 (dk zX11_findShortest 43 rfl) ?_
  refine x_icmp_ge (tgt := 153) (by decide) (dk zX11_findShortest 44 rfl) (fun c1 => ?_) (fun c1 => ?_)
  · have hc1t := h.1 c1
    refine x_aload_n 0 rfl rfl (dk zX11_findShortest 82 rfl) ?_
    refine x_iload 5 rfl (dk zX11_findShortest 83 rfl) ?_
    refine x_iload_n 3 rfl rfl (dk zX11_findShortest 84 rfl) ?_
    refine x_callV (as := [.int x5, .int x3]) (o := 123) (ci := 11) (st := []) rfl okRX11_243 npX11_goesOn ⟨Nat.le_of_ble_eq_true rfl, Nat.le_of_ble_eq_true rfl⟩ k123 (by decide) rfl (Nat.le_of_ble_eq_true rfl) (dk zX11_findShortest 85 rfl) ?_
    refine hc1t.mono ?_
    rintro _ m2 ⟨rfl, hm2⟩
    show Ex E MX11_findShortest Q 160 [(0, .ref 123), (1, .int x1), (2, .int x2), (3, .int x3), (4, .int x4), (5, .int x5), (6, .int x6)] [] m2
    exact x_vret rfl (dk zX11_findShortest 86 rfl) hm2
  · have hc1f := h.2 c1
    refine x_aload_n 0 rfl rfl (dk zX11_findShortest 45 rfl) ?_
    refine gf11_19 (r := 137) rfl k123 r123_19 (dk zX11_findShortest 46 rfl) ?_
    refine x_iload 6 rfl (dk zX11_findShortest 47 rfl) ?_
    have b3 := hc1f.1
    have hb3 := hc1f.2
    refine y_iald (j := x6.toNatClampNeg) k137 l137 b3 rfl (dk zX11_findShortest 48 rfl) ?_
    refine x_topi (fun v4 ev4 => ?_)
    have hv4 := hb3 v4 ev4
    refine x_istoreG (l' := [(0, .ref 123), (1, .int x1), (2, .int x2), (3, .int x3), (4, .int x4), (5, .int x5), (6, .int x6), (7, .int v4)]) [1, 2, 3, 4, 5, 6, 7, 0] rfl (by decide) (dk zX11_findShortest 49 rfl) ?_
    refine x_aload_n 0 rfl rfl (dk zX11_findShortest 50 rfl) ?_
    refine x_iload 5 rfl (dk zX11_findShortest 51 rfl) ?_
    refine x_aload_n 0 rfl rfl (dk zX11_findShortest 52 rfl) ?_
    refine x_iload 7 rfl (dk zX11_findShortest 53 rfl) ?_
    refine x_callV (as := [.int v4]) (o := 123) (ci := 11) (st := [.int x5, .ref 123]) rfl okRX11_166 npX11_start ⟨Nat.le_of_ble_eq_true rfl, Nat.le_of_ble_eq_true rfl⟩ k123 (by decide) rfl (Nat.le_of_ble_eq_true rfl) (dk zX11_findShortest 54 rfl) ?_
    refine hv4.mono ?_
    rintro _ m5 ⟨r6, rfl, hm5⟩
    show Ex E MX11_findShortest Q 99 [(0, .ref 123), (1, .int x1), (2, .int x2), (3, .int x3), (4, .int x4), (5, .int x5), (6, .int x6), (7, .int v4)] [.int r6, .int x5, .ref 123] m5
    refine x_callV (as := [.int x5, .int r6]) (o := 123) (ci := 11) (st := []) rfl okRX11_243 npX11_goesOn ⟨Nat.le_of_ble_eq_true rfl, Nat.le_of_ble_eq_true rfl⟩ k123 (by decide) rfl (Nat.le_of_ble_eq_true rfl) (dk zX11_findShortest 55 rfl) ?_
    refine hm5.mono ?_
    rintro _ m7 ⟨rfl, hm7⟩
    show Ex E MX11_findShortest Q 102 [(0, .ref 123), (1, .int x1), (2, .int x2), (3, .int x3), (4, .int x4), (5, .int x5), (6, .int x6), (7, .int v4)] [] m7
    refine x_aload_n 0 rfl rfl (dk zX11_findShortest 56 rfl) ?_
    refine x_aload_n 0 rfl rfl (dk zX11_findShortest 57 rfl) ?_
    refine gf11_23 rfl k123 (dk zX11_findShortest 58 rfl) ?_
    refine x_if_eq (tgt := 125) (by decide) (dk zX11_findShortest 59 rfl) (fun c8 => ?_) (fun c8 => ?_)
    · have hc8t := hm7.1 c8
      refine x_iconst (v := 0) (by decide) (dk zX11_findShortest 68 rfl) ?_
      refine pf11_23 rfl k123 (by decide) (dk zX11_findShortest 69 rfl) ?_
      refine x_aload_n 0 rfl rfl (dk zX11_findShortest 70 rfl) ?_
      refine x_dupr (dk zX11_findShortest 71 rfl) ?_
      refine gf11_21 rfl k123 (dk zX11_findShortest 72 rfl) ?_
      refine x_iconst (v := 1) (by decide) (dk zX11_findShortest 73 rfl) ?_
      refine x_iadd (dk zX11_findShortest 74 rfl) ?_
      refine x_topi (fun v9 ev9 => ?_)
      have hv9 := hc8t v9 ev9
      refine pf11_21 rfl k123 (dk zX11_findShortest 75 rfl) ?_
      refine x_aload_n 0 rfl rfl (dk zX11_findShortest 76 rfl) ?_
      refine x_iload 7 rfl (dk zX11_findShortest 77 rfl) ?_
      refine x_callV (as := [.int v4]) (o := 123) (ci := 11) (st := []) rfl okRX11_202 npX11_end ⟨Nat.le_of_ble_eq_true rfl, Nat.le_of_ble_eq_true rfl⟩ k123 (by decide) rfl (Nat.le_of_ble_eq_true rfl) (dk zX11_findShortest 78 rfl) ?_
      refine hv9.mono ?_
      rintro _ m10 ⟨r11, rfl, hm10⟩
      show Ex E MX11_findShortest Q 145 [(0, .ref 123), (1, .int x1), (2, .int x2), (3, .int x3), (4, .int x4), (5, .int x5), (6, .int x6), (7, .int v4)] [.int r11] m10
      refine x_istoreG (l' := [(0, .ref 123), (1, .int x1), (2, .int x2), (3, .int x3), (4, .int x4), (5, .int r11), (6, .int x6), (7, .int v4)]) [1, 2, 3, 4, 5, 0, 6, 7] rfl (by decide) (dk zX11_findShortest 79 rfl) ?_
      obtain ⟨v12, ev12⟩ : ∃ y : Int32, y = x6 + 1 := ⟨_, rfl⟩
      have hv12 := hm10 v12 ev12
      refine x_iinc (v := v12) (l' := [(0, .ref 123), (1, .int x1), (2, .int x2), (3, .int x3), (4, .int x4), (5, .int r11), (6, .int v12), (7, .int v4)]) 6 rfl (by rw [ev12]; rfl) [1, 2, 3, 4, 5, 6, 0, 7] rfl (by decide) (dk zX11_findShortest 80 rfl) ?_
      refine x_goto (tgt := 72) (by decide) (dk zX11_findShortest 81 rfl) ?_
      exact x_sub [0, 1, 2, 3, 4, 5, 6] rfl hv12
    · have hc8f := hm7.2 c8
      refine x_aload_n 0 rfl rfl (dk zX11_findShortest 60 rfl) ?_
      refine x_iload 7 rfl (dk zX11_findShortest 61 rfl) ?_
      refine x_iconst (v := 2) (by decide) (dk zX11_findShortest 62 rfl) ?_
      refine x_idiv (by decide) (dk zX11_findShortest 63 rfl) ?_
      refine x_callV (as := [.int (v4 / 2)]) (o := 123) (ci := 11) (st := [.ref 123]) rfl okRX11_172 npX11_isShut ⟨Nat.le_of_ble_eq_true rfl, Nat.le_of_ble_eq_true rfl⟩ k123 (by decide) rfl (Nat.le_of_ble_eq_true rfl) (dk zX11_findShortest 64 rfl) ?_
      refine hc8f.mono ?_
      rintro _ m13 ⟨r14, rfl, hm13⟩
      show Ex E MX11_findShortest Q 118 [(0, .ref 123), (1, .int x1), (2, .int x2), (3, .int x3), (4, .int x4), (5, .int x5), (6, .int x6), (7, .int v4)] [.int r14, .ref 123] m13
      refine x_if_ne (tgt := 125) (by decide) (dk zX11_findShortest 65 rfl) (fun c15 => ?_) (fun c15 => ?_)
      · have hc15t := hm13.1 c15
        refine x_iconst (v := 0) (by decide) (dk zX11_findShortest 68 rfl) ?_
        refine pf11_23 rfl k123 (by decide) (dk zX11_findShortest 69 rfl) ?_
        refine x_aload_n 0 rfl rfl (dk zX11_findShortest 70 rfl) ?_
        refine x_dupr (dk zX11_findShortest 71 rfl) ?_
        refine gf11_21 rfl k123 (dk zX11_findShortest 72 rfl) ?_
        refine x_iconst (v := 1) (by decide) (dk zX11_findShortest 73 rfl) ?_
        refine x_iadd (dk zX11_findShortest 74 rfl) ?_
        refine x_topi (fun v16 ev16 => ?_)
        have hv16 := hc15t v16 ev16
        refine pf11_21 rfl k123 (dk zX11_findShortest 75 rfl) ?_
        refine x_aload_n 0 rfl rfl (dk zX11_findShortest 76 rfl) ?_
        refine x_iload 7 rfl (dk zX11_findShortest 77 rfl) ?_
        refine x_callV (as := [.int v4]) (o := 123) (ci := 11) (st := []) rfl okRX11_202 npX11_end ⟨Nat.le_of_ble_eq_true rfl, Nat.le_of_ble_eq_true rfl⟩ k123 (by decide) rfl (Nat.le_of_ble_eq_true rfl) (dk zX11_findShortest 78 rfl) ?_
        refine hv16.mono ?_
        rintro _ m17 ⟨r18, rfl, hm17⟩
        show Ex E MX11_findShortest Q 145 [(0, .ref 123), (1, .int x1), (2, .int x2), (3, .int x3), (4, .int x4), (5, .int x5), (6, .int x6), (7, .int v4)] [.int r18] m17
        refine x_istoreG (l' := [(0, .ref 123), (1, .int x1), (2, .int x2), (3, .int x3), (4, .int x4), (5, .int r18), (6, .int x6), (7, .int v4)]) [1, 2, 3, 4, 5, 0, 6, 7] rfl (by decide) (dk zX11_findShortest 79 rfl) ?_
        obtain ⟨v19, ev19⟩ : ∃ y : Int32, y = x6 + 1 := ⟨_, rfl⟩
        have hv19 := hm17 v19 ev19
        refine x_iinc (v := v19) (l' := [(0, .ref 123), (1, .int x1), (2, .int x2), (3, .int x3), (4, .int x4), (5, .int r18), (6, .int v19), (7, .int v4)]) 6 rfl (by rw [ev19]; rfl) [1, 2, 3, 4, 5, 6, 0, 7] rfl (by decide) (dk zX11_findShortest 80 rfl) ?_
        refine x_goto (tgt := 72) (by decide) (dk zX11_findShortest 81 rfl) ?_
        exact x_sub [0, 1, 2, 3, 4, 5, 6] rfl hv19
      · have hc15f := hm13.2 c15
        refine x_iconst (v := 1) (by decide) (dk zX11_findShortest 66 rfl) ?_
        refine x_goto (tgt := 126) (by decide) (dk zX11_findShortest 67 rfl) ?_
        refine pf11_23 rfl k123 (by decide) (dk zX11_findShortest 69 rfl) ?_
        refine x_aload_n 0 rfl rfl (dk zX11_findShortest 70 rfl) ?_
        refine x_dupr (dk zX11_findShortest 71 rfl) ?_
        refine gf11_21 rfl k123 (dk zX11_findShortest 72 rfl) ?_
        refine x_iconst (v := 1) (by decide) (dk zX11_findShortest 73 rfl) ?_
        refine x_iadd (dk zX11_findShortest 74 rfl) ?_
        refine x_topi (fun v20 ev20 => ?_)
        have hv20 := hc15f v20 ev20
        refine pf11_21 rfl k123 (dk zX11_findShortest 75 rfl) ?_
        refine x_aload_n 0 rfl rfl (dk zX11_findShortest 76 rfl) ?_
        refine x_iload 7 rfl (dk zX11_findShortest 77 rfl) ?_
        refine x_callV (as := [.int v4]) (o := 123) (ci := 11) (st := []) rfl okRX11_202 npX11_end ⟨Nat.le_of_ble_eq_true rfl, Nat.le_of_ble_eq_true rfl⟩ k123 (by decide) rfl (Nat.le_of_ble_eq_true rfl) (dk zX11_findShortest 78 rfl) ?_
        refine hv20.mono ?_
        rintro _ m21 ⟨r22, rfl, hm21⟩
        show Ex E MX11_findShortest Q 145 [(0, .ref 123), (1, .int x1), (2, .int x2), (3, .int x3), (4, .int x4), (5, .int x5), (6, .int x6), (7, .int v4)] [.int r22] m21
        refine x_istoreG (l' := [(0, .ref 123), (1, .int x1), (2, .int x2), (3, .int x3), (4, .int x4), (5, .int r22), (6, .int x6), (7, .int v4)]) [1, 2, 3, 4, 5, 0, 6, 7] rfl (by decide) (dk zX11_findShortest 79 rfl) ?_
        obtain ⟨v23, ev23⟩ : ∃ y : Int32, y = x6 + 1 := ⟨_, rfl⟩
        have hv23 := hm21 v23 ev23
        refine x_iinc (v := v23) (l' := [(0, .ref 123), (1, .int x1), (2, .int x2), (3, .int x3), (4, .int x4), (5, .int r22), (6, .int v23), (7, .int v4)]) 6 rfl (by rw [ev23]; rfl) [1, 2, 3, 4, 5, 6, 0, 7] rfl (by decide) (dk zX11_findShortest 80 rfl) ?_
        refine x_goto (tgt := 72) (by decide) (dk zX11_findShortest 81 rfl) ?_
        exact x_sub [0, 1, 2, 3, 4, 5, 6] rfl hv23
set_option maxRecDepth 20000 in
set_option maxHeartbeats 2000000 in
theorem gX11_shortestOf_0 {E : EV} {Q : Po} {μ : Mem} {x1 : Int32} {x2 : Int32} {x3 : Int32} {x4 : Int32} {x5 : Int32} (h : Sp E MX11_findShortest [.ref 123, .int x1, .int x2, .int x3, .int x4] μ (fun v m1 => v = none ∧ ((¬ x5 = 1 → (((m1.1 123 23) = 0 → Q (some (.long ((-1)))) m1) ∧ (¬ (m1.1 123 23) = 0 → Q (some (.long (Int32.toInt64 (m1.1 123 21)))) m1))) ∧ (x5 = 1 → (((m1.1 123 23) = 0 → Q (some (.long 0)) m1) ∧ (¬ (m1.1 123 23) = 0 → Q (some (.long (m1.2 123 22))) m1)))))) : Ex E MX11_shortestOf Q 0 [(0, .ref 123), (1, .int x1), (2, .int x2), (3, .int x3), (4, .int x4), (5, .int x5)] [] μ := by
  refine x_aload_n 0 rfl rfl (dk zX11_shortestOf 0 rfl) ?_
  refine x_iload_n 1 rfl rfl (dk zX11_shortestOf 1 rfl) ?_
  refine x_iload_n 2 rfl rfl (dk zX11_shortestOf 2 rfl) ?_
  refine x_iload_n 3 rfl rfl (dk zX11_shortestOf 3 rfl) ?_
  refine x_iload 4 rfl (dk zX11_shortestOf 4 rfl) ?_
  refine x_callV (as := [.int x1, .int x2, .int x3, .int x4]) (o := 123) (ci := 11) (st := []) rfl okRX11_246 npX11_findShortest ⟨Nat.le_of_ble_eq_true rfl, Nat.le_of_ble_eq_true rfl⟩ k123 (by decide) rfl (Nat.le_of_ble_eq_true rfl) (dk zX11_shortestOf 5 rfl) ?_
  refine h.mono ?_
  rintro _ m1 ⟨rfl, hm1⟩
  show Ex E MX11_shortestOf Q 9 [(0, .ref 123), (1, .int x1), (2, .int x2), (3, .int x3), (4, .int x4), (5, .int x5)] [] m1
  refine x_iload 5 rfl (dk zX11_shortestOf 6 rfl) ?_
  refine x_iconst (v := 1) (by decide) (dk zX11_shortestOf 7 rfl) ?_
  refine x_icmp_ne (tgt := 33) (by decide) (dk zX11_shortestOf 8 rfl) (fun c2 => ?_) (fun c2 => ?_)
  · have hc2t := hm1.1 c2
    refine x_aload_n 0 rfl rfl (dk zX11_shortestOf 17 rfl) ?_
    refine gf11_23 rfl k123 (dk zX11_shortestOf 18 rfl) ?_
    refine x_if_eq (tgt := 48) (by decide) (dk zX11_shortestOf 19 rfl) (fun c3 => ?_) (fun c3 => ?_)
    · have hc3t := hc2t.1 c3
      refine x_ldc2 (v := -1) rfl wkRX11_250 (dk zX11_shortestOf 24 rfl) ?_
      exact x_lret rfl (dk zX11_shortestOf 25 rfl) hc3t
    · have hc3f := hc2t.2 c3
      refine x_aload_n 0 rfl rfl (dk zX11_shortestOf 20 rfl) ?_
      refine gf11_21 rfl k123 (dk zX11_shortestOf 21 rfl) ?_
      refine x_i2l (dk zX11_shortestOf 22 rfl) ?_
      refine x_goto (tgt := 51) (by decide) (dk zX11_shortestOf 23 rfl) ?_
      exact x_lret rfl (dk zX11_shortestOf 25 rfl) hc3f
  · have hc2f := hm1.2 c2
    refine x_aload_n 0 rfl rfl (dk zX11_shortestOf 9 rfl) ?_
    refine gf11_23 rfl k123 (dk zX11_shortestOf 10 rfl) ?_
    refine x_if_eq (tgt := 29) (by decide) (dk zX11_shortestOf 11 rfl) (fun c4 => ?_) (fun c4 => ?_)
    · have hc4t := hc2f.1 c4
      refine x_lconst (v := 0) (by decide) (dk zX11_shortestOf 15 rfl) ?_
      refine x_goto (tgt := 51) (by decide) (dk zX11_shortestOf 16 rfl) ?_
      exact x_lret rfl (dk zX11_shortestOf 25 rfl) hc4t
    · have hc4f := hc2f.2 c4
      refine x_aload_n 0 rfl rfl (dk zX11_shortestOf 12 rfl) ?_
      refine gf11_22 rfl k123 (dk zX11_shortestOf 13 rfl) ?_
      refine x_goto (tgt := 51) (by decide) (dk zX11_shortestOf 14 rfl) ?_
      exact x_lret rfl (dk zX11_shortestOf 25 rfl) hc4f
set_option maxRecDepth 20000 in
set_option maxHeartbeats 2000000 in
theorem gX11_isAsked_0 {E : EV} {Q : Po} {μ : Mem} {x1 : Int32} {x2 : Int32} {x3 : Int32} {x4 : Int32} (h : Sp E MX11_isTown [.int x1] μ (fun v m1 => ∃ r2 : Int32, v = some (.int r2) ∧ ((r2 = 0 → Q (some (.int 0)) m1) ∧ (¬ r2 = 0 → Sp E MX11_isBegun [.ref 123, .int x2] m1 (fun v m4 => ∃ r5 : Int32, v = some (.int r5) ∧ ((r5 = 0 → Q (some (.int 0)) m4) ∧ (¬ r5 = 0 → Sp E MX11_isTown [.int x3] m4 (fun v m7 => ∃ r8 : Int32, v = some (.int r8) ∧ ((r8 = 0 → Q (some (.int 0)) m7) ∧ (¬ r8 = 0 → Sp E MX11_isBegun [.ref 123, .int x4] m7 (fun v m10 => ∃ r11 : Int32, v = some (.int r11) ∧ ((r11 = 0 → Q (some (.int 0)) m10) ∧ (¬ r11 = 0 → Q (some (.int 1)) m10))))))))))))) : Ex E MX11_isAsked Q 0 [(0, .ref 123), (1, .int x1), (2, .int x2), (3, .int x3), (4, .int x4)] [] μ := by
  refine x_iload_n 1 rfl rfl (dk zX11_isAsked 0 rfl) ?_
  refine x_callS (as := [.int x1]) (st := []) rfl okRX11_148 npX11_isTown ⟨Nat.le_of_ble_eq_true rfl, Nat.le_of_ble_eq_true rfl⟩ (Nat.le_of_ble_eq_true rfl) (dk zX11_isAsked 1 rfl) ?_
  refine h.mono ?_
  rintro _ m1 ⟨r2, rfl, hm1⟩
  show Ex E MX11_isAsked Q 4 [(0, .ref 123), (1, .int x1), (2, .int x2), (3, .int x3), (4, .int x4)] [.int r2] m1
  refine x_if_eq (tgt := 35) (by decide) (dk zX11_isAsked 2 rfl) (fun c3 => ?_) (fun c3 => ?_)
  · have hc3t := hm1.1 c3
    refine x_iconst (v := 0) (by decide) (dk zX11_isAsked 16 rfl) ?_
    exact x_iret rfl rfl (dk zX11_isAsked 17 rfl) hc3t
  · have hc3f := hm1.2 c3
    refine x_aload_n 0 rfl rfl (dk zX11_isAsked 3 rfl) ?_
    refine x_iload_n 2 rfl rfl (dk zX11_isAsked 4 rfl) ?_
    refine x_callV (as := [.int x2]) (o := 123) (ci := 11) (st := []) rfl okRX11_205 npX11_isBegun ⟨Nat.le_of_ble_eq_true rfl, Nat.le_of_ble_eq_true rfl⟩ k123 (by decide) rfl (Nat.le_of_ble_eq_true rfl) (dk zX11_isAsked 5 rfl) ?_
    refine hc3f.mono ?_
    rintro _ m4 ⟨r5, rfl, hm4⟩
    show Ex E MX11_isAsked Q 12 [(0, .ref 123), (1, .int x1), (2, .int x2), (3, .int x3), (4, .int x4)] [.int r5] m4
    refine x_if_eq (tgt := 35) (by decide) (dk zX11_isAsked 6 rfl) (fun c6 => ?_) (fun c6 => ?_)
    · have hc6t := hm4.1 c6
      refine x_iconst (v := 0) (by decide) (dk zX11_isAsked 16 rfl) ?_
      exact x_iret rfl rfl (dk zX11_isAsked 17 rfl) hc6t
    · have hc6f := hm4.2 c6
      refine x_iload_n 3 rfl rfl (dk zX11_isAsked 7 rfl) ?_
      refine x_callS (as := [.int x3]) (st := []) rfl okRX11_148 npX11_isTown ⟨Nat.le_of_ble_eq_true rfl, Nat.le_of_ble_eq_true rfl⟩ (Nat.le_of_ble_eq_true rfl) (dk zX11_isAsked 8 rfl) ?_
      refine hc6f.mono ?_
      rintro _ m7 ⟨r8, rfl, hm7⟩
      show Ex E MX11_isAsked Q 19 [(0, .ref 123), (1, .int x1), (2, .int x2), (3, .int x3), (4, .int x4)] [.int r8] m7
      refine x_if_eq (tgt := 35) (by decide) (dk zX11_isAsked 9 rfl) (fun c9 => ?_) (fun c9 => ?_)
      · have hc9t := hm7.1 c9
        refine x_iconst (v := 0) (by decide) (dk zX11_isAsked 16 rfl) ?_
        exact x_iret rfl rfl (dk zX11_isAsked 17 rfl) hc9t
      · have hc9f := hm7.2 c9
        refine x_aload_n 0 rfl rfl (dk zX11_isAsked 10 rfl) ?_
        refine x_iload 4 rfl (dk zX11_isAsked 11 rfl) ?_
        refine x_callV (as := [.int x4]) (o := 123) (ci := 11) (st := []) rfl okRX11_205 npX11_isBegun ⟨Nat.le_of_ble_eq_true rfl, Nat.le_of_ble_eq_true rfl⟩ k123 (by decide) rfl (Nat.le_of_ble_eq_true rfl) (dk zX11_isAsked 12 rfl) ?_
        refine hc9f.mono ?_
        rintro _ m10 ⟨r11, rfl, hm10⟩
        show Ex E MX11_isAsked Q 28 [(0, .ref 123), (1, .int x1), (2, .int x2), (3, .int x3), (4, .int x4)] [.int r11] m10
        refine x_if_eq (tgt := 35) (by decide) (dk zX11_isAsked 13 rfl) (fun c12 => ?_) (fun c12 => ?_)
        · have hc12t := hm10.1 c12
          refine x_iconst (v := 0) (by decide) (dk zX11_isAsked 16 rfl) ?_
          exact x_iret rfl rfl (dk zX11_isAsked 17 rfl) hc12t
        · have hc12f := hm10.2 c12
          refine x_iconst (v := 1) (by decide) (dk zX11_isAsked 14 rfl) ?_
          refine x_goto (tgt := 36) (by decide) (dk zX11_isAsked 15 rfl) ?_
          exact x_iret rfl rfl (dk zX11_isAsked 17 rfl) hc12f
set_option maxRecDepth 20000 in
set_option maxHeartbeats 2000000 in
theorem gX11_shortest_0 {E : EV} {Q : Po} {μ : Mem} {x1 : Int32} {x2 : Int32} {x3 : Int32} {x4 : Int32} {x5 : Int32} (h : Sp E MX11_isAsked [.ref 123, .int x1, .int x2, .int x3, .int x4] μ (fun v m1 => ∃ r2 : Int32, v = some (.int r2) ∧ ((r2 = 0 → Sp E MX11_no [.int ((-2))] m1 (fun v m4 => ∃ r5 : Int64, v = some (.long r5) ∧ Q (some (.long r5)) m4)) ∧ (¬ r2 = 0 → Sp E MX11_isTwo [.int x5] m1 (fun v m6 => ∃ r7 : Int32, v = some (.int r7) ∧ ((r7 = 0 → Sp E MX11_no [.int ((-2))] m6 (fun v m9 => ∃ r10 : Int64, v = some (.long r10) ∧ Q (some (.long r10)) m9)) ∧ (¬ r7 = 0 → Sp E MX11_shortestOf [.ref 123, .int x1, .int x2, .int x3, .int x4, .int x5] m6 (fun v m11 => ∃ r12 : Int64, v = some (.long r12) ∧ Q (some (.long r12)) m11)))))))) : Ex E MX11_shortest Q 0 [(0, .ref 123), (1, .int x1), (2, .int x2), (3, .int x3), (4, .int x4), (5, .int x5)] [] μ := by
  refine x_aload_n 0 rfl rfl (dk zX11_shortest 0 rfl) ?_
  refine x_iload_n 1 rfl rfl (dk zX11_shortest 1 rfl) ?_
  refine x_iload_n 2 rfl rfl (dk zX11_shortest 2 rfl) ?_
  refine x_iload_n 3 rfl rfl (dk zX11_shortest 3 rfl) ?_
  refine x_iload 4 rfl (dk zX11_shortest 4 rfl) ?_
  refine x_callV (as := [.int x1, .int x2, .int x3, .int x4]) (o := 123) (ci := 11) (st := []) rfl okRX11_252 npX11_isAsked ⟨Nat.le_of_ble_eq_true rfl, Nat.le_of_ble_eq_true rfl⟩ k123 (by decide) rfl (Nat.le_of_ble_eq_true rfl) (dk zX11_shortest 5 rfl) ?_
  refine h.mono ?_
  rintro _ m1 ⟨r2, rfl, hm1⟩
  show Ex E MX11_shortest Q 9 [(0, .ref 123), (1, .int x1), (2, .int x2), (3, .int x3), (4, .int x4), (5, .int x5)] [.int r2] m1
  refine x_if_eq (tgt := 34) (by decide) (dk zX11_shortest 6 rfl) (fun c3 => ?_) (fun c3 => ?_)
  · have hc3t := hm1.1 c3
    refine x_bipush (v := -2) (by decide) (dk zX11_shortest 18 rfl) ?_
    refine x_callS (as := [.int ((-2))]) (st := []) rfl okRX11_263 npX11_no ⟨Nat.le_of_ble_eq_true rfl, Nat.le_of_ble_eq_true rfl⟩ (Nat.le_of_ble_eq_true rfl) (dk zX11_shortest 19 rfl) ?_
    refine hc3t.mono ?_
    rintro _ m4 ⟨r5, rfl, hm4⟩
    show Ex E MX11_shortest Q 39 [(0, .ref 123), (1, .int x1), (2, .int x2), (3, .int x3), (4, .int x4), (5, .int x5)] [.long r5] m4
    exact x_lret rfl (dk zX11_shortest 20 rfl) hm4
  · have hc3f := hm1.2 c3
    refine x_iload 5 rfl (dk zX11_shortest 7 rfl) ?_
    refine x_callS (as := [.int x5]) (st := []) rfl okRX11_256 npX11_isTwo ⟨Nat.le_of_ble_eq_true rfl, Nat.le_of_ble_eq_true rfl⟩ (Nat.le_of_ble_eq_true rfl) (dk zX11_shortest 8 rfl) ?_
    refine hc3f.mono ?_
    rintro _ m6 ⟨r7, rfl, hm6⟩
    show Ex E MX11_shortest Q 17 [(0, .ref 123), (1, .int x1), (2, .int x2), (3, .int x3), (4, .int x4), (5, .int x5)] [.int r7] m6
    refine x_if_eq (tgt := 34) (by decide) (dk zX11_shortest 9 rfl) (fun c8 => ?_) (fun c8 => ?_)
    · have hc8t := hm6.1 c8
      refine x_bipush (v := -2) (by decide) (dk zX11_shortest 18 rfl) ?_
      refine x_callS (as := [.int ((-2))]) (st := []) rfl okRX11_263 npX11_no ⟨Nat.le_of_ble_eq_true rfl, Nat.le_of_ble_eq_true rfl⟩ (Nat.le_of_ble_eq_true rfl) (dk zX11_shortest 19 rfl) ?_
      refine hc8t.mono ?_
      rintro _ m9 ⟨r10, rfl, hm9⟩
      show Ex E MX11_shortest Q 39 [(0, .ref 123), (1, .int x1), (2, .int x2), (3, .int x3), (4, .int x4), (5, .int x5)] [.long r10] m9
      exact x_lret rfl (dk zX11_shortest 20 rfl) hm9
    · have hc8f := hm6.2 c8
      refine x_aload_n 0 rfl rfl (dk zX11_shortest 10 rfl) ?_
      refine x_iload_n 1 rfl rfl (dk zX11_shortest 11 rfl) ?_
      refine x_iload_n 2 rfl rfl (dk zX11_shortest 12 rfl) ?_
      refine x_iload_n 3 rfl rfl (dk zX11_shortest 13 rfl) ?_
      refine x_iload 4 rfl (dk zX11_shortest 14 rfl) ?_
      refine x_iload 5 rfl (dk zX11_shortest 15 rfl) ?_
      refine x_callV (as := [.int x1, .int x2, .int x3, .int x4, .int x5]) (o := 123) (ci := 11) (st := []) rfl okRX11_259 npX11_shortestOf ⟨Nat.le_of_ble_eq_true rfl, Nat.le_of_ble_eq_true rfl⟩ k123 (by decide) rfl (Nat.le_of_ble_eq_true rfl) (dk zX11_shortest 16 rfl) ?_
      refine hc8f.mono ?_
      rintro _ m11 ⟨r12, rfl, hm11⟩
      show Ex E MX11_shortest Q 31 [(0, .ref 123), (1, .int x1), (2, .int x2), (3, .int x3), (4, .int x4), (5, .int x5)] [.long r12] m11
      refine x_goto (tgt := 39) (by decide) (dk zX11_shortest 17 rfl) ?_
      exact x_lret rfl (dk zX11_shortest 20 rfl) hm11
set_option maxRecDepth 20000 in
set_option maxHeartbeats 2000000 in
theorem gX11_leastUnseen_0 {E : EV} {Q : Po} {μ : Mem} {x1 : Int32} {x2 : Int32} (h : Ex E MX11_leastUnseen Q 5 [(0, .ref 123), (1, .int x1), (2, .int x2), (3, .int ((-1))), (4, .int 0)] [] μ) : Ex E MX11_leastUnseen Q 0 [(0, .ref 123), (1, .int x1), (2, .int x2)] [] μ := by
  refine x_iconst (v := -1) (by decide) (dk zX11_leastUnseen 0 rfl) ?_
  refine x_istore_n (k := 3) (l' := [(0, .ref 123), (1, .int x1), (2, .int x2), (3, .int ((-1)))]) [1, 2, 3, 0] rfl rfl (by decide) (dk zX11_leastUnseen 1 rfl) ?_
  refine x_iconst (v := 0) (by decide) (dk zX11_leastUnseen 2 rfl) ?_
  refine x_istoreG (l' := [(0, .ref 123), (1, .int x1), (2, .int x2), (3, .int ((-1))), (4, .int 0)]) [1, 2, 3, 4, 0] rfl (by decide) (dk zX11_leastUnseen 3 rfl) ?_
  exact h
set_option maxRecDepth 20000 in
set_option maxHeartbeats 2000000 in
theorem gX11_leastUnseen_5 {E : EV} {Q : Po} {μ : Mem} {x1 : Int32} {x2 : Int32} {x3 : Int32} {x4 : Int32} (h : (((2 * (μ.1 123 8)) ≤ x4 → Q (some (.int x3)) μ) ∧ (¬ (2 * (μ.1 123 8)) ≤ x4 → Sp E MX11_isUnseen [.ref 123, .int x4] μ (fun v m2 => ∃ r3 : Int32, v = some (.int r3) ∧ ((r3 = 0 → ∀ v5 : Int32, v5 = x4 + 1 → Ex E MX11_leastUnseen Q 5 [(0, .ref 123), (1, .int x1), (2, .int x2), (3, .int x3), (4, .int v5)] [] m2) ∧ (¬ r3 = 0 → Sp E MX11_start [.ref 123, .int x4] m2 (fun v m6 => ∃ r7 : Int32, v = some (.int r7) ∧ ((¬ r7 = x1 → ∀ v9 : Int32, v9 = x4 + 1 → Ex E MX11_leastUnseen Q 5 [(0, .ref 123), (1, .int x1), (2, .int x2), (3, .int x3), (4, .int v9)] [] m6) ∧ (r7 = x1 → Sp E MX11_end [.ref 123, .int x4] m6 (fun v m10 => ∃ r11 : Int32, v = some (.int r11) ∧ vp_in ((8 * r11) + x2) 64 ∧ (vp_in ((8 * x1) + x2) 64 ∧ (((¬ (m10.1 135 (((8 * r11) + x2).toNatClampNeg)) = ((m10.1 135 (((8 * x1) + x2).toNatClampNeg)) - 1) → ∀ v15 : Int32, v15 = x4 + 1 → Ex E MX11_leastUnseen Q 5 [(0, .ref 123), (1, .int x1), (2, .int x2), (3, .int x3), (4, .int v15)] [] m10) ∧ ((m10.1 135 (((8 * r11) + x2).toNatClampNeg)) = ((m10.1 135 (((8 * x1) + x2).toNatClampNeg)) - 1) → ((x3 = ((-1)) → ∀ v17 : Int32, v17 = x4 + 1 → Ex E MX11_leastUnseen Q 5 [(0, .ref 123), (1, .int x1), (2, .int x2), (3, .int x4), (4, .int v17)] [] m10) ∧ (¬ x3 = ((-1)) → Sp E MX11_byteOf [.int x4] m10 (fun v m18 => ∃ r19 : Int32, v = some (.int r19) ∧ Sp E MX11_byteOf [.int x3] m18 (fun v m20 => ∃ r21 : Int32, v = some (.int r21) ∧ ((r21 ≤ r19 → ∀ v23 : Int32, v23 = x4 + 1 → Ex E MX11_leastUnseen Q 5 [(0, .ref 123), (1, .int x1), (2, .int x2), (3, .int x3), (4, .int v23)] [] m20) ∧ (¬ r21 ≤ r19 → ∀ v24 : Int32, v24 = x4 + 1 → Ex E MX11_leastUnseen Q 5 [(0, .ref 123), (1, .int x1), (2, .int x2), (3, .int x4), (4, .int v24)] [] m20)))))))))))))))))))) : Ex E MX11_leastUnseen Q 5 [(0, .ref 123), (1, .int x1), (2, .int x2), (3, .int x3), (4, .int x4)] [] μ := by
  refine x_iload 4 rfl (dk zX11_leastUnseen 4 rfl) ?_
  refine x_iconst (v := 2) (by decide) (dk zX11_leastUnseen 5 rfl) ?_
  refine x_aload_n 0 rfl rfl (dk zX11_leastUnseen 6 rfl) ?_
  refine gf11_8 rfl k123 (dk zX11_leastUnseen 7 rfl) ?_
  refine x_imul (dk zX11_leastUnseen 8 rfl) ?_
  refine x_icmp_ge (tgt := 109) (by decide) (dk zX11_leastUnseen 9 rfl) (fun c1 => ?_) (fun c1 => ?_)
  · have hc1t := h.1 c1
    refine x_iload_n 3 rfl rfl (dk zX11_leastUnseen 60 rfl) ?_
    exact x_iret (ty := .int) rfl rfl (dk zX11_leastUnseen 61 rfl) hc1t
  · have hc1f := h.2 c1
    refine x_aload_n 0 rfl rfl (dk zX11_leastUnseen 10 rfl) ?_
    refine x_iload 4 rfl (dk zX11_leastUnseen 11 rfl) ?_
    refine x_callV (as := [.int x4]) (o := 123) (ci := 11) (st := []) rfl okRX11_220 npX11_isUnseen ⟨Nat.le_of_ble_eq_true rfl, Nat.le_of_ble_eq_true rfl⟩ k123 (by decide) rfl (Nat.le_of_ble_eq_true rfl) (dk zX11_leastUnseen 12 rfl) ?_
    refine hc1f.mono ?_
    rintro _ m2 ⟨r3, rfl, hm2⟩
    show Ex E MX11_leastUnseen Q 22 [(0, .ref 123), (1, .int x1), (2, .int x2), (3, .int x3), (4, .int x4)] [.int r3] m2
    refine x_if_eq (tgt := 71) (by decide) (dk zX11_leastUnseen 13 rfl) (fun c4 => ?_) (fun c4 => ?_)
    · have hc4t := hm2.1 c4
      refine x_iconst (v := 0) (by decide) (dk zX11_leastUnseen 42 rfl) ?_
      refine x_istoreG (l' := [(0, .ref 123), (1, .int x1), (2, .int x2), (3, .int x3), (4, .int x4), (5, .int 0)]) [1, 2, 3, 4, 5, 0] rfl (by decide) (dk zX11_leastUnseen 43 rfl) ?_
      refine x_iload 5 rfl (dk zX11_leastUnseen 44 rfl) ?_
      refine x_if_eq (tgt := 101) (by decide) (dk zX11_leastUnseen 45 rfl) (fun _ => ?_) (fun c => absurd c (by decide))
      refine x_iload_n 3 rfl rfl (dk zX11_leastUnseen 56 rfl) ?_
      refine x_istore_n (k := 3) (l' := [(0, .ref 123), (1, .int x1), (2, .int x2), (3, .int x3), (4, .int x4), (5, .int 0)]) [1, 2, 3, 0, 4, 5] rfl rfl (by decide) (dk zX11_leastUnseen 57 rfl) ?_
      obtain ⟨v5, ev5⟩ : ∃ y : Int32, y = x4 + 1 := ⟨_, rfl⟩
      have hv5 := hc4t v5 ev5
      refine x_iinc (v := v5) (l' := [(0, .ref 123), (1, .int x1), (2, .int x2), (3, .int x3), (4, .int v5), (5, .int 0)]) 4 rfl (by rw [ev5]; rfl) [1, 2, 3, 4, 0, 5] rfl (by decide) (dk zX11_leastUnseen 58 rfl) ?_
      refine x_goto (tgt := 5) (by decide) (dk zX11_leastUnseen 59 rfl) ?_
      exact x_sub [0, 1, 2, 3, 4] rfl hv5
    · have hc4f := hm2.2 c4
      refine x_aload_n 0 rfl rfl (dk zX11_leastUnseen 14 rfl) ?_
      refine x_iload 4 rfl (dk zX11_leastUnseen 15 rfl) ?_
      refine x_callV (as := [.int x4]) (o := 123) (ci := 11) (st := []) rfl okRX11_166 npX11_start ⟨Nat.le_of_ble_eq_true rfl, Nat.le_of_ble_eq_true rfl⟩ k123 (by decide) rfl (Nat.le_of_ble_eq_true rfl) (dk zX11_leastUnseen 16 rfl) ?_
      refine hc4f.mono ?_
      rintro _ m6 ⟨r7, rfl, hm6⟩
      show Ex E MX11_leastUnseen Q 31 [(0, .ref 123), (1, .int x1), (2, .int x2), (3, .int x3), (4, .int x4)] [.int r7] m6
      refine x_iload_n 1 rfl rfl (dk zX11_leastUnseen 17 rfl) ?_
      refine x_icmp_ne (tgt := 71) (by decide) (dk zX11_leastUnseen 18 rfl) (fun c8 => ?_) (fun c8 => ?_)
      · have hc8t := hm6.1 c8
        refine x_iconst (v := 0) (by decide) (dk zX11_leastUnseen 42 rfl) ?_
        refine x_istoreG (l' := [(0, .ref 123), (1, .int x1), (2, .int x2), (3, .int x3), (4, .int x4), (5, .int 0)]) [1, 2, 3, 4, 5, 0] rfl (by decide) (dk zX11_leastUnseen 43 rfl) ?_
        refine x_iload 5 rfl (dk zX11_leastUnseen 44 rfl) ?_
        refine x_if_eq (tgt := 101) (by decide) (dk zX11_leastUnseen 45 rfl) (fun _ => ?_) (fun c => absurd c (by decide))
        refine x_iload_n 3 rfl rfl (dk zX11_leastUnseen 56 rfl) ?_
        refine x_istore_n (k := 3) (l' := [(0, .ref 123), (1, .int x1), (2, .int x2), (3, .int x3), (4, .int x4), (5, .int 0)]) [1, 2, 3, 0, 4, 5] rfl rfl (by decide) (dk zX11_leastUnseen 57 rfl) ?_
        obtain ⟨v9, ev9⟩ : ∃ y : Int32, y = x4 + 1 := ⟨_, rfl⟩
        have hv9 := hc8t v9 ev9
        refine x_iinc (v := v9) (l' := [(0, .ref 123), (1, .int x1), (2, .int x2), (3, .int x3), (4, .int v9), (5, .int 0)]) 4 rfl (by rw [ev9]; rfl) [1, 2, 3, 4, 0, 5] rfl (by decide) (dk zX11_leastUnseen 58 rfl) ?_
        refine x_goto (tgt := 5) (by decide) (dk zX11_leastUnseen 59 rfl) ?_
        exact x_sub [0, 1, 2, 3, 4] rfl hv9
      · have hc8f := hm6.2 c8
        refine x_aload_n 0 rfl rfl (dk zX11_leastUnseen 19 rfl) ?_
        refine gf11_17 (r := 135) rfl k123 r123_17 (dk zX11_leastUnseen 20 rfl) ?_
        refine x_bipush (v := 8) (by decide) (dk zX11_leastUnseen 21 rfl) ?_
        refine x_aload_n 0 rfl rfl (dk zX11_leastUnseen 22 rfl) ?_
        refine x_iload 4 rfl (dk zX11_leastUnseen 23 rfl) ?_
        refine x_callV (as := [.int x4]) (o := 123) (ci := 11) (st := [.int 8, .ref 135]) rfl okRX11_202 npX11_end ⟨Nat.le_of_ble_eq_true rfl, Nat.le_of_ble_eq_true rfl⟩ k123 (by decide) rfl (Nat.le_of_ble_eq_true rfl) (dk zX11_leastUnseen 24 rfl) ?_
        refine hc8f.mono ?_
        rintro _ m10 ⟨r11, rfl, hm10⟩
        show Ex E MX11_leastUnseen Q 47 [(0, .ref 123), (1, .int x1), (2, .int x2), (3, .int x3), (4, .int x4)] [.int r11, .int 8, .ref 135] m10
        refine x_imul (dk zX11_leastUnseen 25 rfl) ?_
        refine x_iload_n 2 rfl rfl (dk zX11_leastUnseen 26 rfl) ?_
        refine x_iadd (dk zX11_leastUnseen 27 rfl) ?_
        have b12 := hm10.1
        have hb12 := hm10.2
        refine y_iald (j := ((8 * r11) + x2).toNatClampNeg) k135 l135 b12 rfl (dk zX11_leastUnseen 28 rfl) ?_
        refine x_aload_n 0 rfl rfl (dk zX11_leastUnseen 29 rfl) ?_
        refine gf11_17 (r := 135) rfl k123 r123_17 (dk zX11_leastUnseen 30 rfl) ?_
        refine x_bipush (v := 8) (by decide) (dk zX11_leastUnseen 31 rfl) ?_
        refine x_iload_n 1 rfl rfl (dk zX11_leastUnseen 32 rfl) ?_
        refine x_imul (dk zX11_leastUnseen 33 rfl) ?_
        refine x_iload_n 2 rfl rfl (dk zX11_leastUnseen 34 rfl) ?_
        refine x_iadd (dk zX11_leastUnseen 35 rfl) ?_
        have b13 := hb12.1
        have hb13 := hb12.2
        refine y_iald (j := ((8 * x1) + x2).toNatClampNeg) k135 l135 b13 rfl (dk zX11_leastUnseen 36 rfl) ?_
        refine x_iconst (v := 1) (by decide) (dk zX11_leastUnseen 37 rfl) ?_
        refine x_isub (dk zX11_leastUnseen 38 rfl) ?_
        refine x_icmp_ne (tgt := 71) (by decide) (dk zX11_leastUnseen 39 rfl) (fun c14 => ?_) (fun c14 => ?_)
        · have hc14t := hb13.1 c14
          refine x_iconst (v := 0) (by decide) (dk zX11_leastUnseen 42 rfl) ?_
          refine x_istoreG (l' := [(0, .ref 123), (1, .int x1), (2, .int x2), (3, .int x3), (4, .int x4), (5, .int 0)]) [1, 2, 3, 4, 5, 0] rfl (by decide) (dk zX11_leastUnseen 43 rfl) ?_
          refine x_iload 5 rfl (dk zX11_leastUnseen 44 rfl) ?_
          refine x_if_eq (tgt := 101) (by decide) (dk zX11_leastUnseen 45 rfl) (fun _ => ?_) (fun c => absurd c (by decide))
          refine x_iload_n 3 rfl rfl (dk zX11_leastUnseen 56 rfl) ?_
          refine x_istore_n (k := 3) (l' := [(0, .ref 123), (1, .int x1), (2, .int x2), (3, .int x3), (4, .int x4), (5, .int 0)]) [1, 2, 3, 0, 4, 5] rfl rfl (by decide) (dk zX11_leastUnseen 57 rfl) ?_
          obtain ⟨v15, ev15⟩ : ∃ y : Int32, y = x4 + 1 := ⟨_, rfl⟩
          have hv15 := hc14t v15 ev15
          refine x_iinc (v := v15) (l' := [(0, .ref 123), (1, .int x1), (2, .int x2), (3, .int x3), (4, .int v15), (5, .int 0)]) 4 rfl (by rw [ev15]; rfl) [1, 2, 3, 4, 0, 5] rfl (by decide) (dk zX11_leastUnseen 58 rfl) ?_
          refine x_goto (tgt := 5) (by decide) (dk zX11_leastUnseen 59 rfl) ?_
          exact x_sub [0, 1, 2, 3, 4] rfl hv15
        · have hc14f := hb13.2 c14
          refine x_iconst (v := 1) (by decide) (dk zX11_leastUnseen 40 rfl) ?_
          refine x_goto (tgt := 72) (by decide) (dk zX11_leastUnseen 41 rfl) ?_
          refine x_istoreG (l' := [(0, .ref 123), (1, .int x1), (2, .int x2), (3, .int x3), (4, .int x4), (5, .int 1)]) [1, 2, 3, 4, 5, 0] rfl (by decide) (dk zX11_leastUnseen 43 rfl) ?_
          refine x_iload 5 rfl (dk zX11_leastUnseen 44 rfl) ?_
          refine x_if_eq (tgt := 101) (by decide) (dk zX11_leastUnseen 45 rfl) (fun c => absurd c (by decide)) (fun _ => ?_)
          refine x_iload_n 3 rfl rfl (dk zX11_leastUnseen 46 rfl) ?_
          refine x_iconst (v := -1) (by decide) (dk zX11_leastUnseen 47 rfl) ?_
          refine x_icmp_eq (tgt := 96) (by decide) (dk zX11_leastUnseen 48 rfl) (fun c16 => ?_) (fun c16 => ?_)
          · have hc16t := hc14f.1 c16
            refine x_iload 4 rfl (dk zX11_leastUnseen 54 rfl) ?_
            refine x_goto (tgt := 102) (by decide) (dk zX11_leastUnseen 55 rfl) ?_
            refine x_istore_n (k := 3) (l' := [(0, .ref 123), (1, .int x1), (2, .int x2), (3, .int x4), (4, .int x4), (5, .int 1)]) [1, 2, 3, 0, 4, 5] rfl rfl (by decide) (dk zX11_leastUnseen 57 rfl) ?_
            obtain ⟨v17, ev17⟩ : ∃ y : Int32, y = x4 + 1 := ⟨_, rfl⟩
            have hv17 := hc16t v17 ev17
            refine x_iinc (v := v17) (l' := [(0, .ref 123), (1, .int x1), (2, .int x2), (3, .int x4), (4, .int v17), (5, .int 1)]) 4 rfl (by rw [ev17]; rfl) [1, 2, 3, 4, 0, 5] rfl (by decide) (dk zX11_leastUnseen 58 rfl) ?_
            refine x_goto (tgt := 5) (by decide) (dk zX11_leastUnseen 59 rfl) ?_
            exact x_sub [0, 1, 2, 3, 4] rfl hv17
          · have hc16f := hc14f.2 c16
            refine x_iload 4 rfl (dk zX11_leastUnseen 49 rfl) ?_
            refine x_callS (as := [.int x4]) (st := []) rfl okRX11_199 npX11_byteOf ⟨Nat.le_of_ble_eq_true rfl, Nat.le_of_ble_eq_true rfl⟩ (Nat.le_of_ble_eq_true rfl) (dk zX11_leastUnseen 50 rfl) ?_
            refine hc16f.mono ?_
            rintro _ m18 ⟨r19, rfl, hm18⟩
            show Ex E MX11_leastUnseen Q 89 [(0, .ref 123), (1, .int x1), (2, .int x2), (3, .int x3), (4, .int x4), (5, .int 1)] [.int r19] m18
            refine x_iload_n 3 rfl rfl (dk zX11_leastUnseen 51 rfl) ?_
            refine x_callS (as := [.int x3]) (st := [.int r19]) rfl okRX11_199 npX11_byteOf ⟨Nat.le_of_ble_eq_true rfl, Nat.le_of_ble_eq_true rfl⟩ (Nat.le_of_ble_eq_true rfl) (dk zX11_leastUnseen 52 rfl) ?_
            refine hm18.mono ?_
            rintro _ m20 ⟨r21, rfl, hm20⟩
            show Ex E MX11_leastUnseen Q 93 [(0, .ref 123), (1, .int x1), (2, .int x2), (3, .int x3), (4, .int x4), (5, .int 1)] [.int r21, .int r19] m20
            refine x_icmp_ge (tgt := 101) (by decide) (dk zX11_leastUnseen 53 rfl) (fun c22 => ?_) (fun c22 => ?_)
            · have hc22t := hm20.1 c22
              refine x_iload_n 3 rfl rfl (dk zX11_leastUnseen 56 rfl) ?_
              refine x_istore_n (k := 3) (l' := [(0, .ref 123), (1, .int x1), (2, .int x2), (3, .int x3), (4, .int x4), (5, .int 1)]) [1, 2, 3, 0, 4, 5] rfl rfl (by decide) (dk zX11_leastUnseen 57 rfl) ?_
              obtain ⟨v23, ev23⟩ : ∃ y : Int32, y = x4 + 1 := ⟨_, rfl⟩
              have hv23 := hc22t v23 ev23
              refine x_iinc (v := v23) (l' := [(0, .ref 123), (1, .int x1), (2, .int x2), (3, .int x3), (4, .int v23), (5, .int 1)]) 4 rfl (by rw [ev23]; rfl) [1, 2, 3, 4, 0, 5] rfl (by decide) (dk zX11_leastUnseen 58 rfl) ?_
              refine x_goto (tgt := 5) (by decide) (dk zX11_leastUnseen 59 rfl) ?_
              exact x_sub [0, 1, 2, 3, 4] rfl hv23
            · have hc22f := hm20.2 c22
              refine x_iload 4 rfl (dk zX11_leastUnseen 54 rfl) ?_
              refine x_goto (tgt := 102) (by decide) (dk zX11_leastUnseen 55 rfl) ?_
              refine x_istore_n (k := 3) (l' := [(0, .ref 123), (1, .int x1), (2, .int x2), (3, .int x4), (4, .int x4), (5, .int 1)]) [1, 2, 3, 0, 4, 5] rfl rfl (by decide) (dk zX11_leastUnseen 57 rfl) ?_
              obtain ⟨v24, ev24⟩ : ∃ y : Int32, y = x4 + 1 := ⟨_, rfl⟩
              have hv24 := hc22f v24 ev24
              refine x_iinc (v := v24) (l' := [(0, .ref 123), (1, .int x1), (2, .int x2), (3, .int x4), (4, .int v24), (5, .int 1)]) 4 rfl (by rw [ev24]; rfl) [1, 2, 3, 4, 0, 5] rfl (by decide) (dk zX11_leastUnseen 58 rfl) ?_
              refine x_goto (tgt := 5) (by decide) (dk zX11_leastUnseen 59 rfl) ?_
              exact x_sub [0, 1, 2, 3, 4] rfl hv24
set_option maxRecDepth 20000 in
set_option maxHeartbeats 2000000 in
theorem gX11_letter_0 {E : EV} {Q : Po} {μ : Mem} {x1 : Int32} {x2 : Int32} {x3 : Int32} {x4 : Int32} {x5 : Int32} (h : Sp E MX11_isAsked [.ref 123, .int x1, .int x2, .int x3, .int x4] μ (fun v m1 => ∃ r2 : Int32, v = some (.int r2) ∧ ((r2 = 0 → Q (some (.int ((-2)))) m1) ∧ (¬ r2 = 0 → ((0 ≤ x5 → Sp E MX11_findShortest [.ref 123, .int x1, .int x2, .int x3, .int x4] m1 (fun v m5 => v = none ∧ (((m5.1 123 23) = 0 → Q (some (.int ((-1)))) m5) ∧ (¬ (m5.1 123 23) = 0 → ((x5 < (m5.1 123 21) → Ex E MX11_letter Q 59 [(0, .ref 123), (1, .int x1), (2, .int x2), (3, .int x3), (4, .int x4), (5, .int x5), (6, .int x1), (7, .int 0), (8, .int ((-1))), (9, .int 0)] [] m5) ∧ (¬ x5 < (m5.1 123 21) → Q (some (.int ((-1)))) m5)))))) ∧ (¬ 0 ≤ x5 → Q (some (.int ((-2)))) m1)))))) : Ex E MX11_letter Q 0 [(0, .ref 123), (1, .int x1), (2, .int x2), (3, .int x3), (4, .int x4), (5, .int x5)] [] μ := by
  refine x_aload_n 0 rfl rfl (dk zX11_letter 0 rfl) ?_
  refine x_iload_n 1 rfl rfl (dk zX11_letter 1 rfl) ?_
  refine x_iload_n 2 rfl rfl (dk zX11_letter 2 rfl) ?_
  refine x_iload_n 3 rfl rfl (dk zX11_letter 3 rfl) ?_
  refine x_iload 4 rfl (dk zX11_letter 4 rfl) ?_
  refine x_callV (as := [.int x1, .int x2, .int x3, .int x4]) (o := 123) (ci := 11) (st := []) rfl okRX11_252 npX11_isAsked ⟨Nat.le_of_ble_eq_true rfl, Nat.le_of_ble_eq_true rfl⟩ k123 (by decide) rfl (Nat.le_of_ble_eq_true rfl) (dk zX11_letter 5 rfl) ?_
  refine h.mono ?_
  rintro _ m1 ⟨r2, rfl, hm1⟩
  show Ex E MX11_letter Q 9 [(0, .ref 123), (1, .int x1), (2, .int x2), (3, .int x3), (4, .int x4), (5, .int x5)] [.int r2] m1
  refine x_if_eq (tgt := 17) (by decide) (dk zX11_letter 6 rfl) (fun c3 => ?_) (fun c3 => ?_)
  · have hc3t := hm1.1 c3
    refine x_bipush (v := -2) (by decide) (dk zX11_letter 9 rfl) ?_
    exact x_iret (ty := .int) rfl rfl (dk zX11_letter 10 rfl) hc3t
  · have hc3f := hm1.2 c3
    refine x_iload 5 rfl (dk zX11_letter 7 rfl) ?_
    refine x_if_ge (tgt := 20) (by decide) (dk zX11_letter 8 rfl) (fun c4 => ?_) (fun c4 => ?_)
    · have hc4t := hc3f.1 c4
      refine x_aload_n 0 rfl rfl (dk zX11_letter 11 rfl) ?_
      refine x_iload_n 1 rfl rfl (dk zX11_letter 12 rfl) ?_
      refine x_iload_n 2 rfl rfl (dk zX11_letter 13 rfl) ?_
      refine x_iload_n 3 rfl rfl (dk zX11_letter 14 rfl) ?_
      refine x_iload 4 rfl (dk zX11_letter 15 rfl) ?_
      refine x_callV (as := [.int x1, .int x2, .int x3, .int x4]) (o := 123) (ci := 11) (st := []) rfl okRX11_246 npX11_findShortest ⟨Nat.le_of_ble_eq_true rfl, Nat.le_of_ble_eq_true rfl⟩ k123 (by decide) rfl (Nat.le_of_ble_eq_true rfl) (dk zX11_letter 16 rfl) ?_
      refine hc4t.mono ?_
      rintro _ m5 ⟨rfl, hm5⟩
      show Ex E MX11_letter Q 29 [(0, .ref 123), (1, .int x1), (2, .int x2), (3, .int x3), (4, .int x4), (5, .int x5)] [] m5
      refine x_aload_n 0 rfl rfl (dk zX11_letter 17 rfl) ?_
      refine gf11_23 rfl k123 (dk zX11_letter 18 rfl) ?_
      refine x_if_eq (tgt := 45) (by decide) (dk zX11_letter 19 rfl) (fun c6 => ?_) (fun c6 => ?_)
      · have hc6t := hm5.1 c6
        refine x_iconst (v := -1) (by decide) (dk zX11_letter 24 rfl) ?_
        exact x_iret (ty := .int) rfl rfl (dk zX11_letter 25 rfl) hc6t
      · have hc6f := hm5.2 c6
        refine x_iload 5 rfl (dk zX11_letter 20 rfl) ?_
        refine x_aload_n 0 rfl rfl (dk zX11_letter 21 rfl) ?_
        refine gf11_21 rfl k123 (dk zX11_letter 22 rfl) ?_
        refine x_icmp_lt (tgt := 47) (by decide) (dk zX11_letter 23 rfl) (fun c7 => ?_) (fun c7 => ?_)
        · have hc7t := hc6f.1 c7
          refine x_iload_n 1 rfl rfl (dk zX11_letter 26 rfl) ?_
          refine x_istoreG (l' := [(0, .ref 123), (1, .int x1), (2, .int x2), (3, .int x3), (4, .int x4), (5, .int x5), (6, .int x1)]) [1, 2, 3, 4, 5, 6, 0] rfl (by decide) (dk zX11_letter 27 rfl) ?_
          refine x_iconst (v := 0) (by decide) (dk zX11_letter 28 rfl) ?_
          refine x_istoreG (l' := [(0, .ref 123), (1, .int x1), (2, .int x2), (3, .int x3), (4, .int x4), (5, .int x5), (6, .int x1), (7, .int 0)]) [1, 2, 3, 4, 5, 6, 7, 0] rfl (by decide) (dk zX11_letter 29 rfl) ?_
          refine x_iconst (v := -1) (by decide) (dk zX11_letter 30 rfl) ?_
          refine x_istoreG (l' := [(0, .ref 123), (1, .int x1), (2, .int x2), (3, .int x3), (4, .int x4), (5, .int x5), (6, .int x1), (7, .int 0), (8, .int ((-1)))]) [1, 2, 3, 4, 5, 6, 7, 8, 0] rfl (by decide) (dk zX11_letter 31 rfl) ?_
          refine x_iconst (v := 0) (by decide) (dk zX11_letter 32 rfl) ?_
          refine x_istoreG (l' := [(0, .ref 123), (1, .int x1), (2, .int x2), (3, .int x3), (4, .int x4), (5, .int x5), (6, .int x1), (7, .int 0), (8, .int ((-1))), (9, .int 0)]) [1, 2, 3, 4, 5, 6, 7, 8, 9, 0] rfl (by decide) (dk zX11_letter 33 rfl) ?_
          exact hc7t
        · have hc7f := hc6f.2 c7
          refine x_iconst (v := -1) (by decide) (dk zX11_letter 24 rfl) ?_
          exact x_iret (ty := .int) rfl rfl (dk zX11_letter 25 rfl) hc7f
    · have hc4f := hc3f.2 c4
      refine x_bipush (v := -2) (by decide) (dk zX11_letter 9 rfl) ?_
      exact x_iret (ty := .int) rfl rfl (dk zX11_letter 10 rfl) hc4f
set_option maxRecDepth 20000 in
set_option maxHeartbeats 2000000 in
theorem gX11_letter_59 {E : EV} {Q : Po} {μ : Mem} {x1 : Int32} {x2 : Int32} {x3 : Int32} {x4 : Int32} {x5 : Int32} {x6 : Int32} {x7 : Int32} {x8 : Int32} {x9 : Int32} (h : ((x5 < x9 → Sp E MX11_byteOf [.int x8] μ (fun v m2 => ∃ r3 : Int32, v = some (.int r3) ∧ Q (some (.int r3)) m2)) ∧ (¬ x5 < x9 → (((μ.1 123 20) ≤ x7 → ((¬ x6 = x3 → Sp E MX11_leastUnseen [.ref 123, .int x6, .int x3] μ (fun v m6 => ∃ r7 : Int32, v = some (.int r7) ∧ Sp E MX11_end [.ref 123, .int r7] m6 (fun v m8 => ∃ r9 : Int32, v = some (.int r9) ∧ ∀ v10 : Int32, v10 = x9 + 1 → Ex E MX11_letter Q 59 [(0, .ref 123), (1, .int x1), (2, .int x2), (3, .int x3), (4, .int x4), (5, .int x5), (6, .int r9), (7, .int x7), (8, .int r7), (9, .int v10)] [] m8))) ∧ (x6 = x3 → vp_in x7 120 ∧ (∀ v12 : Int32, v12 = μ.1 137 x7.toNatClampNeg → ∀ v13 : Int32, v13 = x7 + 1 → Sp E MX11_end [.ref 123, .int v12] μ (fun v m14 => ∃ r15 : Int32, v = some (.int r15) ∧ ∀ v16 : Int32, v16 = x9 + 1 → Ex E MX11_letter Q 59 [(0, .ref 123), (1, .int x1), (2, .int x2), (3, .int x3), (4, .int x4), (5, .int x5), (6, .int r15), (7, .int v13), (8, .int v12), (9, .int v16)] [] m14))))) ∧ (¬ (μ.1 123 20) ≤ x7 → vp_in x7 120 ∧ (Sp E MX11_start [.ref 123, .int (μ.1 137 x7.toNatClampNeg)] μ (fun v m18 => ∃ r19 : Int32, v = some (.int r19) ∧ ((¬ x6 = r19 → Sp E MX11_leastUnseen [.ref 123, .int x6, .int r19] m18 (fun v m21 => ∃ r22 : Int32, v = some (.int r22) ∧ Sp E MX11_end [.ref 123, .int r22] m21 (fun v m23 => ∃ r24 : Int32, v = some (.int r24) ∧ ∀ v25 : Int32, v25 = x9 + 1 → Ex E MX11_letter Q 59 [(0, .ref 123), (1, .int x1), (2, .int x2), (3, .int x3), (4, .int x4), (5, .int x5), (6, .int r24), (7, .int x7), (8, .int r22), (9, .int v25)] [] m23))) ∧ (x6 = r19 → ∀ v26 : Int32, v26 = m18.1 137 x7.toNatClampNeg → ∀ v27 : Int32, v27 = x7 + 1 → Sp E MX11_end [.ref 123, .int v26] m18 (fun v m28 => ∃ r29 : Int32, v = some (.int r29) ∧ ∀ v30 : Int32, v30 = x9 + 1 → Ex E MX11_letter Q 59 [(0, .ref 123), (1, .int x1), (2, .int x2), (3, .int x3), (4, .int x4), (5, .int x5), (6, .int r29), (7, .int v27), (8, .int v26), (9, .int v30)] [] m28)))))))))) : Ex E MX11_letter Q 59 [(0, .ref 123), (1, .int x1), (2, .int x2), (3, .int x3), (4, .int x4), (5, .int x5), (6, .int x6), (7, .int x7), (8, .int x8), (9, .int x9)] [] μ := by
  refine x_iload 9 rfl (dk zX11_letter 34 rfl) ?_
  refine x_iload 5 rfl (dk zX11_letter 35 rfl) ?_
  refine x_icmp_gt (tgt := 138) (by decide) (dk zX11_letter 36 rfl) (fun c1 => ?_) (fun c1 => ?_)
  · have hc1t := h.1 c1
    refine x_iload 8 rfl (dk zX11_letter 71 rfl) ?_
    refine x_callS (as := [.int x8]) (st := []) rfl okRX11_199 npX11_byteOf ⟨Nat.le_of_ble_eq_true rfl, Nat.le_of_ble_eq_true rfl⟩ (Nat.le_of_ble_eq_true rfl) (dk zX11_letter 72 rfl) ?_
    refine hc1t.mono ?_
    rintro _ m2 ⟨r3, rfl, hm2⟩
    show Ex E MX11_letter Q 143 [(0, .ref 123), (1, .int x1), (2, .int x2), (3, .int x3), (4, .int x4), (5, .int x5), (6, .int x6), (7, .int x7), (8, .int x8), (9, .int x9)] [.int r3] m2
    exact x_iret (ty := .int) rfl rfl (dk zX11_letter 73 rfl) hm2
  · have hc1f := h.2 c1
    refine x_iload 7 rfl (dk zX11_letter 37 rfl) ?_
    refine x_aload_n 0 rfl rfl (dk zX11_letter 38 rfl) ?_
    refine gf11_20 rfl k123 (dk zX11_letter 39 rfl) ?_
    refine x_icmp_ge (tgt := 89) (by decide) (dk zX11_letter 40 rfl) (fun c4 => ?_) (fun c4 => ?_)
    · have hc4t := hc1f.1 c4
      refine x_iload_n 3 rfl rfl (dk zX11_letter 48 rfl) ?_
      refine x_istoreG (l' := [(0, .ref 123), (1, .int x1), (2, .int x2), (3, .int x3), (4, .int x4), (5, .int x5), (6, .int x6), (7, .int x7), (8, .int x8), (9, .int x9), (10, .int x3)]) [1, 2, 3, 4, 5, 6, 7, 8, 9, 10, 0] rfl (by decide) (dk zX11_letter 49 rfl) ?_
      refine x_iload 6 rfl (dk zX11_letter 50 rfl) ?_
      refine x_iload 10 rfl (dk zX11_letter 51 rfl) ?_
      refine x_icmp_ne (tgt := 114) (by decide) (dk zX11_letter 52 rfl) (fun c5 => ?_) (fun c5 => ?_)
      · have hc5t := hc4t.1 c5
        refine x_aload_n 0 rfl rfl (dk zX11_letter 60 rfl) ?_
        refine x_iload 6 rfl (dk zX11_letter 61 rfl) ?_
        refine x_iload 10 rfl (dk zX11_letter 62 rfl) ?_
        refine x_callV (as := [.int x6, .int x3]) (o := 123) (ci := 11) (st := []) rfl okRX11_267 npX11_leastUnseen ⟨Nat.le_of_ble_eq_true rfl, Nat.le_of_ble_eq_true rfl⟩ k123 (by decide) rfl (Nat.le_of_ble_eq_true rfl) (dk zX11_letter 63 rfl) ?_
        refine hc5t.mono ?_
        rintro _ m6 ⟨r7, rfl, hm6⟩
        show Ex E MX11_letter Q 122 [(0, .ref 123), (1, .int x1), (2, .int x2), (3, .int x3), (4, .int x4), (5, .int x5), (6, .int x6), (7, .int x7), (8, .int x8), (9, .int x9), (10, .int x3)] [.int r7] m6
        refine x_istoreG (l' := [(0, .ref 123), (1, .int x1), (2, .int x2), (3, .int x3), (4, .int x4), (5, .int x5), (6, .int x6), (7, .int x7), (8, .int r7), (9, .int x9), (10, .int x3)]) [1, 2, 3, 4, 5, 6, 7, 8, 0, 9, 10] rfl (by decide) (dk zX11_letter 64 rfl) ?_
        refine x_aload_n 0 rfl rfl (dk zX11_letter 65 rfl) ?_
        refine x_iload 8 rfl (dk zX11_letter 66 rfl) ?_
        refine x_callV (as := [.int r7]) (o := 123) (ci := 11) (st := []) rfl okRX11_202 npX11_end ⟨Nat.le_of_ble_eq_true rfl, Nat.le_of_ble_eq_true rfl⟩ k123 (by decide) rfl (Nat.le_of_ble_eq_true rfl) (dk zX11_letter 67 rfl) ?_
        refine hm6.mono ?_
        rintro _ m8 ⟨r9, rfl, hm8⟩
        show Ex E MX11_letter Q 130 [(0, .ref 123), (1, .int x1), (2, .int x2), (3, .int x3), (4, .int x4), (5, .int x5), (6, .int x6), (7, .int x7), (8, .int r7), (9, .int x9), (10, .int x3)] [.int r9] m8
        refine x_istoreG (l' := [(0, .ref 123), (1, .int x1), (2, .int x2), (3, .int x3), (4, .int x4), (5, .int x5), (6, .int r9), (7, .int x7), (8, .int r7), (9, .int x9), (10, .int x3)]) [1, 2, 3, 4, 5, 6, 0, 7, 8, 9, 10] rfl (by decide) (dk zX11_letter 68 rfl) ?_
        obtain ⟨v10, ev10⟩ : ∃ y : Int32, y = x9 + 1 := ⟨_, rfl⟩
        have hv10 := hm8 v10 ev10
        refine x_iinc (v := v10) (l' := [(0, .ref 123), (1, .int x1), (2, .int x2), (3, .int x3), (4, .int x4), (5, .int x5), (6, .int r9), (7, .int x7), (8, .int r7), (9, .int v10), (10, .int x3)]) 9 rfl (by rw [ev10]; rfl) [1, 2, 3, 4, 5, 6, 7, 8, 9, 0, 10] rfl (by decide) (dk zX11_letter 69 rfl) ?_
        refine x_goto (tgt := 59) (by decide) (dk zX11_letter 70 rfl) ?_
        exact x_sub [0, 1, 2, 3, 4, 5, 6, 7, 8, 9] rfl hv10
      · have hc5f := hc4t.2 c5
        refine x_aload_n 0 rfl rfl (dk zX11_letter 53 rfl) ?_
        refine gf11_19 (r := 137) rfl k123 r123_19 (dk zX11_letter 54 rfl) ?_
        refine x_iload 7 rfl (dk zX11_letter 55 rfl) ?_
        have b11 := hc5f.1
        have hb11 := hc5f.2
        refine y_iald (j := x7.toNatClampNeg) k137 l137 b11 rfl (dk zX11_letter 56 rfl) ?_
        refine x_topi (fun v12 ev12 => ?_)
        have hv12 := hb11 v12 ev12
        refine x_istoreG (l' := [(0, .ref 123), (1, .int x1), (2, .int x2), (3, .int x3), (4, .int x4), (5, .int x5), (6, .int x6), (7, .int x7), (8, .int v12), (9, .int x9), (10, .int x3)]) [1, 2, 3, 4, 5, 6, 7, 8, 0, 9, 10] rfl (by decide) (dk zX11_letter 57 rfl) ?_
        obtain ⟨v13, ev13⟩ : ∃ y : Int32, y = x7 + 1 := ⟨_, rfl⟩
        have hv13 := hv12 v13 ev13
        refine x_iinc (v := v13) (l' := [(0, .ref 123), (1, .int x1), (2, .int x2), (3, .int x3), (4, .int x4), (5, .int x5), (6, .int x6), (7, .int v13), (8, .int v12), (9, .int x9), (10, .int x3)]) 7 rfl (by rw [ev13]; rfl) [1, 2, 3, 4, 5, 6, 7, 0, 8, 9, 10] rfl (by decide) (dk zX11_letter 58 rfl) ?_
        refine x_goto (tgt := 124) (by decide) (dk zX11_letter 59 rfl) ?_
        refine x_aload_n 0 rfl rfl (dk zX11_letter 65 rfl) ?_
        refine x_iload 8 rfl (dk zX11_letter 66 rfl) ?_
        refine x_callV (as := [.int v12]) (o := 123) (ci := 11) (st := []) rfl okRX11_202 npX11_end ⟨Nat.le_of_ble_eq_true rfl, Nat.le_of_ble_eq_true rfl⟩ k123 (by decide) rfl (Nat.le_of_ble_eq_true rfl) (dk zX11_letter 67 rfl) ?_
        refine hv13.mono ?_
        rintro _ m14 ⟨r15, rfl, hm14⟩
        show Ex E MX11_letter Q 130 [(0, .ref 123), (1, .int x1), (2, .int x2), (3, .int x3), (4, .int x4), (5, .int x5), (6, .int x6), (7, .int v13), (8, .int v12), (9, .int x9), (10, .int x3)] [.int r15] m14
        refine x_istoreG (l' := [(0, .ref 123), (1, .int x1), (2, .int x2), (3, .int x3), (4, .int x4), (5, .int x5), (6, .int r15), (7, .int v13), (8, .int v12), (9, .int x9), (10, .int x3)]) [1, 2, 3, 4, 5, 6, 0, 7, 8, 9, 10] rfl (by decide) (dk zX11_letter 68 rfl) ?_
        obtain ⟨v16, ev16⟩ : ∃ y : Int32, y = x9 + 1 := ⟨_, rfl⟩
        have hv16 := hm14 v16 ev16
        refine x_iinc (v := v16) (l' := [(0, .ref 123), (1, .int x1), (2, .int x2), (3, .int x3), (4, .int x4), (5, .int x5), (6, .int r15), (7, .int v13), (8, .int v12), (9, .int v16), (10, .int x3)]) 9 rfl (by rw [ev16]; rfl) [1, 2, 3, 4, 5, 6, 7, 8, 9, 0, 10] rfl (by decide) (dk zX11_letter 69 rfl) ?_
        refine x_goto (tgt := 59) (by decide) (dk zX11_letter 70 rfl) ?_
        exact x_sub [0, 1, 2, 3, 4, 5, 6, 7, 8, 9] rfl hv16
    · have hc4f := hc1f.2 c4
      refine x_aload_n 0 rfl rfl (dk zX11_letter 41 rfl) ?_
      refine x_aload_n 0 rfl rfl (dk zX11_letter 42 rfl) ?_
      refine gf11_19 (r := 137) rfl k123 r123_19 (dk zX11_letter 43 rfl) ?_
      refine x_iload 7 rfl (dk zX11_letter 44 rfl) ?_
      have b17 := hc4f.1
      have hb17 := hc4f.2
      refine y_iald (j := x7.toNatClampNeg) k137 l137 b17 rfl (dk zX11_letter 45 rfl) ?_
      refine x_callV (as := [.int (μ.1 137 x7.toNatClampNeg)]) (o := 123) (ci := 11) (st := []) rfl okRX11_166 npX11_start ⟨Nat.le_of_ble_eq_true rfl, Nat.le_of_ble_eq_true rfl⟩ k123 (by decide) rfl (Nat.le_of_ble_eq_true rfl) (dk zX11_letter 46 rfl) ?_
      refine hb17.mono ?_
      rintro _ m18 ⟨r19, rfl, hm18⟩
      show Ex E MX11_letter Q 86 [(0, .ref 123), (1, .int x1), (2, .int x2), (3, .int x3), (4, .int x4), (5, .int x5), (6, .int x6), (7, .int x7), (8, .int x8), (9, .int x9)] [.int r19] m18
      refine x_goto (tgt := 90) (by decide) (dk zX11_letter 47 rfl) ?_
      refine x_istoreG (l' := [(0, .ref 123), (1, .int x1), (2, .int x2), (3, .int x3), (4, .int x4), (5, .int x5), (6, .int x6), (7, .int x7), (8, .int x8), (9, .int x9), (10, .int r19)]) [1, 2, 3, 4, 5, 6, 7, 8, 9, 10, 0] rfl (by decide) (dk zX11_letter 49 rfl) ?_
      refine x_iload 6 rfl (dk zX11_letter 50 rfl) ?_
      refine x_iload 10 rfl (dk zX11_letter 51 rfl) ?_
      refine x_icmp_ne (tgt := 114) (by decide) (dk zX11_letter 52 rfl) (fun c20 => ?_) (fun c20 => ?_)
      · have hc20t := hm18.1 c20
        refine x_aload_n 0 rfl rfl (dk zX11_letter 60 rfl) ?_
        refine x_iload 6 rfl (dk zX11_letter 61 rfl) ?_
        refine x_iload 10 rfl (dk zX11_letter 62 rfl) ?_
        refine x_callV (as := [.int x6, .int r19]) (o := 123) (ci := 11) (st := []) rfl okRX11_267 npX11_leastUnseen ⟨Nat.le_of_ble_eq_true rfl, Nat.le_of_ble_eq_true rfl⟩ k123 (by decide) rfl (Nat.le_of_ble_eq_true rfl) (dk zX11_letter 63 rfl) ?_
        refine hc20t.mono ?_
        rintro _ m21 ⟨r22, rfl, hm21⟩
        show Ex E MX11_letter Q 122 [(0, .ref 123), (1, .int x1), (2, .int x2), (3, .int x3), (4, .int x4), (5, .int x5), (6, .int x6), (7, .int x7), (8, .int x8), (9, .int x9), (10, .int r19)] [.int r22] m21
        refine x_istoreG (l' := [(0, .ref 123), (1, .int x1), (2, .int x2), (3, .int x3), (4, .int x4), (5, .int x5), (6, .int x6), (7, .int x7), (8, .int r22), (9, .int x9), (10, .int r19)]) [1, 2, 3, 4, 5, 6, 7, 8, 0, 9, 10] rfl (by decide) (dk zX11_letter 64 rfl) ?_
        refine x_aload_n 0 rfl rfl (dk zX11_letter 65 rfl) ?_
        refine x_iload 8 rfl (dk zX11_letter 66 rfl) ?_
        refine x_callV (as := [.int r22]) (o := 123) (ci := 11) (st := []) rfl okRX11_202 npX11_end ⟨Nat.le_of_ble_eq_true rfl, Nat.le_of_ble_eq_true rfl⟩ k123 (by decide) rfl (Nat.le_of_ble_eq_true rfl) (dk zX11_letter 67 rfl) ?_
        refine hm21.mono ?_
        rintro _ m23 ⟨r24, rfl, hm23⟩
        show Ex E MX11_letter Q 130 [(0, .ref 123), (1, .int x1), (2, .int x2), (3, .int x3), (4, .int x4), (5, .int x5), (6, .int x6), (7, .int x7), (8, .int r22), (9, .int x9), (10, .int r19)] [.int r24] m23
        refine x_istoreG (l' := [(0, .ref 123), (1, .int x1), (2, .int x2), (3, .int x3), (4, .int x4), (5, .int x5), (6, .int r24), (7, .int x7), (8, .int r22), (9, .int x9), (10, .int r19)]) [1, 2, 3, 4, 5, 6, 0, 7, 8, 9, 10] rfl (by decide) (dk zX11_letter 68 rfl) ?_
        obtain ⟨v25, ev25⟩ : ∃ y : Int32, y = x9 + 1 := ⟨_, rfl⟩
        have hv25 := hm23 v25 ev25
        refine x_iinc (v := v25) (l' := [(0, .ref 123), (1, .int x1), (2, .int x2), (3, .int x3), (4, .int x4), (5, .int x5), (6, .int r24), (7, .int x7), (8, .int r22), (9, .int v25), (10, .int r19)]) 9 rfl (by rw [ev25]; rfl) [1, 2, 3, 4, 5, 6, 7, 8, 9, 0, 10] rfl (by decide) (dk zX11_letter 69 rfl) ?_
        refine x_goto (tgt := 59) (by decide) (dk zX11_letter 70 rfl) ?_
        exact x_sub [0, 1, 2, 3, 4, 5, 6, 7, 8, 9] rfl hv25
      · have hc20f := hm18.2 c20
        refine x_aload_n 0 rfl rfl (dk zX11_letter 53 rfl) ?_
        refine gf11_19 (r := 137) rfl k123 r123_19 (dk zX11_letter 54 rfl) ?_
        refine x_iload 7 rfl (dk zX11_letter 55 rfl) ?_
        refine y_iald (j := x7.toNatClampNeg) k137 l137 b17 rfl (dk zX11_letter 56 rfl) ?_
        refine x_topi (fun v26 ev26 => ?_)
        have hv26 := hc20f v26 ev26
        refine x_istoreG (l' := [(0, .ref 123), (1, .int x1), (2, .int x2), (3, .int x3), (4, .int x4), (5, .int x5), (6, .int x6), (7, .int x7), (8, .int v26), (9, .int x9), (10, .int r19)]) [1, 2, 3, 4, 5, 6, 7, 8, 0, 9, 10] rfl (by decide) (dk zX11_letter 57 rfl) ?_
        obtain ⟨v27, ev27⟩ : ∃ y : Int32, y = x7 + 1 := ⟨_, rfl⟩
        have hv27 := hv26 v27 ev27
        refine x_iinc (v := v27) (l' := [(0, .ref 123), (1, .int x1), (2, .int x2), (3, .int x3), (4, .int x4), (5, .int x5), (6, .int x6), (7, .int v27), (8, .int v26), (9, .int x9), (10, .int r19)]) 7 rfl (by rw [ev27]; rfl) [1, 2, 3, 4, 5, 6, 7, 0, 8, 9, 10] rfl (by decide) (dk zX11_letter 58 rfl) ?_
        refine x_goto (tgt := 124) (by decide) (dk zX11_letter 59 rfl) ?_
        refine x_aload_n 0 rfl rfl (dk zX11_letter 65 rfl) ?_
        refine x_iload 8 rfl (dk zX11_letter 66 rfl) ?_
        refine x_callV (as := [.int v26]) (o := 123) (ci := 11) (st := []) rfl okRX11_202 npX11_end ⟨Nat.le_of_ble_eq_true rfl, Nat.le_of_ble_eq_true rfl⟩ k123 (by decide) rfl (Nat.le_of_ble_eq_true rfl) (dk zX11_letter 67 rfl) ?_
        refine hv27.mono ?_
        rintro _ m28 ⟨r29, rfl, hm28⟩
        show Ex E MX11_letter Q 130 [(0, .ref 123), (1, .int x1), (2, .int x2), (3, .int x3), (4, .int x4), (5, .int x5), (6, .int x6), (7, .int v27), (8, .int v26), (9, .int x9), (10, .int r19)] [.int r29] m28
        refine x_istoreG (l' := [(0, .ref 123), (1, .int x1), (2, .int x2), (3, .int x3), (4, .int x4), (5, .int x5), (6, .int r29), (7, .int v27), (8, .int v26), (9, .int x9), (10, .int r19)]) [1, 2, 3, 4, 5, 6, 0, 7, 8, 9, 10] rfl (by decide) (dk zX11_letter 68 rfl) ?_
        obtain ⟨v30, ev30⟩ : ∃ y : Int32, y = x9 + 1 := ⟨_, rfl⟩
        have hv30 := hm28 v30 ev30
        refine x_iinc (v := v30) (l' := [(0, .ref 123), (1, .int x1), (2, .int x2), (3, .int x3), (4, .int x4), (5, .int x5), (6, .int r29), (7, .int v27), (8, .int v26), (9, .int v30), (10, .int r19)]) 9 rfl (by rw [ev30]; rfl) [1, 2, 3, 4, 5, 6, 7, 8, 9, 0, 10] rfl (by decide) (dk zX11_letter 69 rfl) ?_
        refine x_goto (tgt := 59) (by decide) (dk zX11_letter 70 rfl) ?_
        exact x_sub [0, 1, 2, 3, 4, 5, 6, 7, 8, 9] rfl hv30
set_option maxRecDepth 20000 in
set_option maxHeartbeats 2000000 in
theorem gX11_findErrands_0 {E : EV} {Q : Po} {μ : Mem} {x1 : Int32} (h : Sp E MX11_readsLand [.ref 123] μ (fun v m1 => ∃ r2 : Int32, v = some (.int r2) ∧ Ex E MX11_findErrands Q 7 [(0, .ref 123), (1, .int x1), (2, .int 0)] [] m1)) : Ex E MX11_findErrands Q 0 [(0, .ref 123), (1, .int x1)] [] μ := by
  refine x_aload_n 0 rfl rfl (dk zX11_findErrands 0 rfl) ?_
  refine x_callV (as := []) (o := 123) (ci := 11) (st := []) rfl okRX11_157 npX11_readsLand ⟨Nat.le_of_ble_eq_true rfl, Nat.le_of_ble_eq_true rfl⟩ k123 (by decide) rfl (Nat.le_of_ble_eq_true rfl) (dk zX11_findErrands 1 rfl) ?_
  refine h.mono ?_
  rintro _ m1 ⟨r2, rfl, hm1⟩
  show Ex E MX11_findErrands Q 4 [(0, .ref 123), (1, .int x1)] [.int r2] m1
  refine x_popi (dk zX11_findErrands 2 rfl) ?_
  refine x_iconst (v := 0) (by decide) (dk zX11_findErrands 3 rfl) ?_
  refine x_istore_n (k := 2) (l' := [(0, .ref 123), (1, .int x1), (2, .int 0)]) [1, 2, 0] rfl rfl (by decide) (dk zX11_findErrands 4 rfl) ?_
  exact hm1
set_option maxRecDepth 20000 in
set_option maxHeartbeats 2000000 in
theorem gX11_findErrands_7 {E : EV} {Q : Po} {μ : Mem} {x1 : Int32} {x2 : Int32} (h : ((96 ≤ x2 → Ex E MX11_findErrands Q 42 [(0, .ref 123), (1, .int x1), (2, .int 1)] [] μ) ∧ (¬ 96 ≤ x2 → ((¬ (x2 - x2 / 8 * 8) = x1 → vp_in x2 96 ∧ (∀ v4 : Int32, v4 = x2 + 1 → Ex E MX11_findErrands Q 7 [(0, .ref 123), (1, .int x1), (2, .int v4)] [] (mI μ 138 x2.toNatClampNeg 1000))) ∧ ((x2 - x2 / 8 * 8) = x1 → vp_in x2 96 ∧ (∀ v6 : Int32, v6 = x2 + 1 → Ex E MX11_findErrands Q 7 [(0, .ref 123), (1, .int x1), (2, .int v6)] [] (mI μ 138 x2.toNatClampNeg 0))))))) : Ex E MX11_findErrands Q 7 [(0, .ref 123), (1, .int x1), (2, .int x2)] [] μ := by
  refine x_iload_n 2 rfl rfl (dk zX11_findErrands 5 rfl) ?_
  refine x_bipush (v := 96) (by decide) (dk zX11_findErrands 6 rfl) ?_
  refine x_icmp_ge (tgt := 40) (by decide) (dk zX11_findErrands 7 rfl) (fun c1 => ?_) (fun c1 => ?_)
  · have hc1t := h.1 c1
    refine x_iconst (v := 1) (by decide) (dk zX11_findErrands 22 rfl) ?_
    refine x_istore_n (k := 2) (l' := [(0, .ref 123), (1, .int x1), (2, .int 1)]) [1, 2, 0] rfl rfl (by decide) (dk zX11_findErrands 23 rfl) ?_
    exact hc1t
  · have hc1f := h.2 c1
    refine x_aload_n 0 rfl rfl (dk zX11_findErrands 8 rfl) ?_
    refine gf11_24 (r := 138) rfl k123 r123_24 (dk zX11_findErrands 9 rfl) ?_
    refine x_iload_n 2 rfl rfl (dk zX11_findErrands 10 rfl) ?_
    refine x_iload_n 2 rfl rfl (dk zX11_findErrands 11 rfl) ?_
    refine x_bipush (v := 8) (by decide) (dk zX11_findErrands 12 rfl) ?_
    refine x_irem (by decide) (dk zX11_findErrands 13 rfl) ?_
    refine x_iload_n 1 rfl rfl (dk zX11_findErrands 14 rfl) ?_
    refine x_icmp_ne (tgt := 30) (by decide) (dk zX11_findErrands 15 rfl) (fun c2 => ?_) (fun c2 => ?_)
    · have hc2t := hc1f.1 c2
      refine x_sipush (v := 1000) (by decide) (dk zX11_findErrands 18 rfl) ?_
      have b3 := hc2t.1
      have hb3 := hc2t.2
      refine y_iast (j := x2.toNatClampNeg) k138 l138 b3 rfl (dk zX11_findErrands 19 rfl) ?_
      obtain ⟨v4, ev4⟩ : ∃ y : Int32, y = x2 + 1 := ⟨_, rfl⟩
      have hv4 := hb3 v4 ev4
      refine x_iinc (v := v4) (l' := [(0, .ref 123), (1, .int x1), (2, .int v4)]) 2 rfl (by rw [ev4]; rfl) [1, 2, 0] rfl (by decide) (dk zX11_findErrands 20 rfl) ?_
      refine x_goto (tgt := 7) (by decide) (dk zX11_findErrands 21 rfl) ?_
      exact hv4
    · have hc2f := hc1f.2 c2
      refine x_iconst (v := 0) (by decide) (dk zX11_findErrands 16 rfl) ?_
      refine x_goto (tgt := 33) (by decide) (dk zX11_findErrands 17 rfl) ?_
      have b5 := hc2f.1
      have hb5 := hc2f.2
      refine y_iast (j := x2.toNatClampNeg) k138 l138 b5 rfl (dk zX11_findErrands 19 rfl) ?_
      obtain ⟨v6, ev6⟩ : ∃ y : Int32, y = x2 + 1 := ⟨_, rfl⟩
      have hv6 := hb5 v6 ev6
      refine x_iinc (v := v6) (l' := [(0, .ref 123), (1, .int x1), (2, .int v6)]) 2 rfl (by rw [ev6]; rfl) [1, 2, 0] rfl (by decide) (dk zX11_findErrands 20 rfl) ?_
      refine x_goto (tgt := 7) (by decide) (dk zX11_findErrands 21 rfl) ?_
      exact hv6
set_option maxRecDepth 20000 in
set_option maxHeartbeats 2000000 in
theorem gX11_findErrands_42 {E : EV} {Q : Po} {μ : Mem} {x1 : Int32} {x2 : Int32} (h : ((x2 = 0 → Q none μ) ∧ (¬ x2 = 0 → Ex E MX11_findErrands Q 50 [(0, .ref 123), (1, .int x1), (2, .int 0), (3, .int 0)] [] μ))) : Ex E MX11_findErrands Q 42 [(0, .ref 123), (1, .int x1), (2, .int x2)] [] μ := by
  refine x_iload_n 2 rfl rfl (dk zX11_findErrands 24 rfl) ?_
  refine x_if_eq (tgt := 189) (by decide) (dk zX11_findErrands 25 rfl) (fun c1 => ?_) (fun c1 => ?_)
  · have hc1t := h.1 c1
    exact x_vret rfl (dk zX11_findErrands 108 rfl) hc1t
  · have hc1f := h.2 c1
    refine x_iconst (v := 0) (by decide) (dk zX11_findErrands 26 rfl) ?_
    refine x_istore_n (k := 2) (l' := [(0, .ref 123), (1, .int x1), (2, .int 0)]) [1, 2, 0] rfl rfl (by decide) (dk zX11_findErrands 27 rfl) ?_
    refine x_iconst (v := 0) (by decide) (dk zX11_findErrands 28 rfl) ?_
    refine x_istore_n (k := 3) (l' := [(0, .ref 123), (1, .int x1), (2, .int 0), (3, .int 0)]) [1, 2, 3, 0] rfl rfl (by decide) (dk zX11_findErrands 29 rfl) ?_
    exact hc1f
set_option maxRecDepth 20000 in
set_option maxHeartbeats 2000000 in
theorem gX11_findErrands_50 {E : EV} {Q : Po} {μ : Mem} {x1 : Int32} {x2 : Int32} {x3 : Int32} (h : ((96 ≤ x3 → Ex E MX11_findErrands Q 42 [(0, .ref 123), (1, .int x1), (2, .int x2)] [] μ) ∧ (¬ 96 ≤ x3 → Ex E MX11_findErrands Q 59 [(0, .ref 123), (1, .int x1), (2, .int x2), (3, .int x3), (4, .int 0)] [] μ))) : Ex E MX11_findErrands Q 50 [(0, .ref 123), (1, .int x1), (2, .int x2), (3, .int x3)] [] μ := by
  refine x_iload_n 3 rfl rfl (dk zX11_findErrands 30 rfl) ?_
  refine x_bipush (v := 96) (by decide) (dk zX11_findErrands 31 rfl) ?_
  refine x_icmp_ge (tgt := 186) (by decide) (dk zX11_findErrands 32 rfl) (fun c1 => ?_) (fun c1 => ?_)
  · have hc1t := h.1 c1
    refine x_goto (tgt := 42) (by decide) (dk zX11_findErrands 107 rfl) ?_
    exact x_sub [0, 1, 2] rfl hc1t
  · have hc1f := h.2 c1
    refine x_iconst (v := 0) (by decide) (dk zX11_findErrands 33 rfl) ?_
    refine x_istoreG (l' := [(0, .ref 123), (1, .int x1), (2, .int x2), (3, .int x3), (4, .int 0)]) [1, 2, 3, 4, 0] rfl (by decide) (dk zX11_findErrands 34 rfl) ?_
    exact hc1f
set_option maxRecDepth 20000 in
set_option maxHeartbeats 2000000 in
theorem gX11_findErrands_59 {E : EV} {Q : Po} {μ : Mem} {x1 : Int32} {x2 : Int32} {x3 : Int32} {x4 : Int32} (h : (((2 * (μ.1 123 8)) ≤ x4 → ∀ v2 : Int32, v2 = x3 + 1 → Ex E MX11_findErrands Q 50 [(0, .ref 123), (1, .int x1), (2, .int x2), (3, .int v2)] [] μ) ∧ (¬ (2 * (μ.1 123 8)) ≤ x4 → vp_in (x4 / 2) 9 ∧ ((((μ.1 132 ((x4 / 2).toNatClampNeg)) = 0 → Sp E MX11_end [.ref 123, .int x4] μ (fun v m5 => ∃ r6 : Int32, v = some (.int r6) ∧ ∀ v7 : Int32, v7 = (8 * ((x3 / 8) + 0)) + r6 → Sp E MX11_isShut [.ref 123, .int (x4 / 2)] m5 (fun v m8 => ∃ r9 : Int32, v = some (.int r9) ∧ ((¬ r9 = 0 → ∀ v11 : Int32, v11 = x4 + 1 → Ex E MX11_findErrands Q 59 [(0, .ref 123), (1, .int x1), (2, .int x2), (3, .int x3), (4, .int v11)] [] m8) ∧ (r9 = 0 → Sp E MX11_start [.ref 123, .int x4] m8 (fun v m12 => ∃ r13 : Int32, v = some (.int r13) ∧ ((¬ r13 = (x3 - x3 / 8 * 8) → ∀ v15 : Int32, v15 = x4 + 1 → Ex E MX11_findErrands Q 59 [(0, .ref 123), (1, .int x1), (2, .int x2), (3, .int x3), (4, .int v15)] [] m12) ∧ (r13 = (x3 - x3 / 8 * 8) → ((96 ≤ v7 → ∀ v17 : Int32, v17 = x4 + 1 → Ex E MX11_findErrands Q 59 [(0, .ref 123), (1, .int x1), (2, .int x2), (3, .int x3), (4, .int v17)] [] m12) ∧ (¬ 96 ≤ v7 → vp_in x3 96 ∧ (vp_in v7 96 ∧ ((((m12.1 138 v7.toNatClampNeg) ≤ ((m12.1 138 x3.toNatClampNeg) + 1) → ∀ v21 : Int32, v21 = x4 + 1 → Ex E MX11_findErrands Q 59 [(0, .ref 123), (1, .int x1), (2, .int x2), (3, .int x3), (4, .int v21)] [] m12) ∧ (¬ (m12.1 138 v7.toNatClampNeg) ≤ ((m12.1 138 x3.toNatClampNeg) + 1) → ∀ v22 : Int32, v22 = (m12.1 138 x3.toNatClampNeg) + 1 → ∀ v23 : Int32, v23 = x4 + 1 → Ex E MX11_findErrands Q 59 [(0, .ref 123), (1, .int x1), (2, .int 1), (3, .int x3), (4, .int v23)] [] (mI m12 138 v7.toNatClampNeg v22))))))))))))))) ∧ (¬ (μ.1 132 ((x4 / 2).toNatClampNeg)) = 0 → Sp E MX11_end [.ref 123, .int x4] μ (fun v m24 => ∃ r25 : Int32, v = some (.int r25) ∧ ∀ v26 : Int32, v26 = (8 * ((x3 / 8) + 1)) + r25 → Sp E MX11_isShut [.ref 123, .int (x4 / 2)] m24 (fun v m27 => ∃ r28 : Int32, v = some (.int r28) ∧ ((¬ r28 = 0 → ∀ v30 : Int32, v30 = x4 + 1 → Ex E MX11_findErrands Q 59 [(0, .ref 123), (1, .int x1), (2, .int x2), (3, .int x3), (4, .int v30)] [] m27) ∧ (r28 = 0 → Sp E MX11_start [.ref 123, .int x4] m27 (fun v m31 => ∃ r32 : Int32, v = some (.int r32) ∧ ((¬ r32 = (x3 - x3 / 8 * 8) → ∀ v34 : Int32, v34 = x4 + 1 → Ex E MX11_findErrands Q 59 [(0, .ref 123), (1, .int x1), (2, .int x2), (3, .int x3), (4, .int v34)] [] m31) ∧ (r32 = (x3 - x3 / 8 * 8) → ((96 ≤ v26 → ∀ v36 : Int32, v36 = x4 + 1 → Ex E MX11_findErrands Q 59 [(0, .ref 123), (1, .int x1), (2, .int x2), (3, .int x3), (4, .int v36)] [] m31) ∧ (¬ 96 ≤ v26 → vp_in x3 96 ∧ (vp_in v26 96 ∧ ((((m31.1 138 v26.toNatClampNeg) ≤ ((m31.1 138 x3.toNatClampNeg) + 1) → ∀ v40 : Int32, v40 = x4 + 1 → Ex E MX11_findErrands Q 59 [(0, .ref 123), (1, .int x1), (2, .int x2), (3, .int x3), (4, .int v40)] [] m31) ∧ (¬ (m31.1 138 v26.toNatClampNeg) ≤ ((m31.1 138 x3.toNatClampNeg) + 1) → ∀ v41 : Int32, v41 = (m31.1 138 x3.toNatClampNeg) + 1 → ∀ v42 : Int32, v42 = x4 + 1 → Ex E MX11_findErrands Q 59 [(0, .ref 123), (1, .int x1), (2, .int 1), (3, .int x3), (4, .int v42)] [] (mI m31 138 v26.toNatClampNeg v41)))))))))))))))))))) : Ex E MX11_findErrands Q 59 [(0, .ref 123), (1, .int x1), (2, .int x2), (3, .int x3), (4, .int x4)] [] μ := by
  refine x_iload 4 rfl (dk zX11_findErrands 35 rfl) ?_
  refine x_iconst (v := 2) (by decide) (dk zX11_findErrands 36 rfl) ?_
  refine x_aload_n 0 rfl rfl (dk zX11_findErrands 37 rfl) ?_
  refine gf11_8 rfl k123 (dk zX11_findErrands 38 rfl) ?_
  refine x_imul (dk zX11_findErrands 39 rfl) ?_
  refine x_icmp_ge (tgt := 180) (by decide) (dk zX11_findErrands 40 rfl) (fun c1 => ?_) (fun c1 => ?_)
  · have hc1t := h.1 c1
    obtain ⟨v2, ev2⟩ : ∃ y : Int32, y = x3 + 1 := ⟨_, rfl⟩
    have hv2 := hc1t v2 ev2
    refine x_iinc (v := v2) (l' := [(0, .ref 123), (1, .int x1), (2, .int x2), (3, .int v2), (4, .int x4)]) 3 rfl (by rw [ev2]; rfl) [1, 2, 3, 0, 4] rfl (by decide) (dk zX11_findErrands 105 rfl) ?_
    refine x_goto (tgt := 50) (by decide) (dk zX11_findErrands 106 rfl) ?_
    exact x_sub [0, 1, 2, 3] rfl hv2
  · have hc1f := h.2 c1
    refine x_aload_n 0 rfl rfl (dk zX11_findErrands 41 rfl) ?_
    refine gf11_11 (r := 132) rfl k123 r123_11 (dk zX11_findErrands 42 rfl) ?_
    refine x_iload 4 rfl (dk zX11_findErrands 43 rfl) ?_
    refine x_iconst (v := 2) (by decide) (dk zX11_findErrands 44 rfl) ?_
    refine x_idiv (by decide) (dk zX11_findErrands 45 rfl) ?_
    have b3 := hc1f.1
    have hb3 := hc1f.2
    refine y_zald (j := (x4 / 2).toNatClampNeg) k132 l132 b3 rfl (dk zX11_findErrands 46 rfl) ?_
    refine x_if_eq (tgt := 86) (by decide) (dk zX11_findErrands 47 rfl) (fun c4 => ?_) (fun c4 => ?_)
    · have hc4t := hb3.1 c4
      refine x_iconst (v := 0) (by decide) (dk zX11_findErrands 50 rfl) ?_
      refine x_istoreG (l' := [(0, .ref 123), (1, .int x1), (2, .int x2), (3, .int x3), (4, .int x4), (5, .int 0)]) [1, 2, 3, 4, 5, 0] rfl (by decide) (dk zX11_findErrands 51 rfl) ?_
      refine x_bipush (v := 8) (by decide) (dk zX11_findErrands 52 rfl) ?_
      refine x_iload_n 3 rfl rfl (dk zX11_findErrands 53 rfl) ?_
      refine x_bipush (v := 8) (by decide) (dk zX11_findErrands 54 rfl) ?_
      refine x_idiv (by decide) (dk zX11_findErrands 55 rfl) ?_
      refine x_iload 5 rfl (dk zX11_findErrands 56 rfl) ?_
      refine x_iadd (dk zX11_findErrands 57 rfl) ?_
      refine x_imul (dk zX11_findErrands 58 rfl) ?_
      refine x_aload_n 0 rfl rfl (dk zX11_findErrands 59 rfl) ?_
      refine x_iload 4 rfl (dk zX11_findErrands 60 rfl) ?_
      refine x_callV (as := [.int x4]) (o := 123) (ci := 11) (st := [.int (8 * ((x3 / 8) + 0))]) rfl okRX11_202 npX11_end ⟨Nat.le_of_ble_eq_true rfl, Nat.le_of_ble_eq_true rfl⟩ k123 (by decide) rfl (Nat.le_of_ble_eq_true rfl) (dk zX11_findErrands 61 rfl) ?_
      refine hc4t.mono ?_
      rintro _ m5 ⟨r6, rfl, hm5⟩
      show Ex E MX11_findErrands Q 105 [(0, .ref 123), (1, .int x1), (2, .int x2), (3, .int x3), (4, .int x4), (5, .int 0)] [.int r6, .int (8 * ((x3 / 8) + 0))] m5
      refine x_iadd (dk zX11_findErrands 62 rfl) ?_
      refine x_topi (fun v7 ev7 => ?_)
      have hv7 := hm5 v7 ev7
      refine x_istoreG (l' := [(0, .ref 123), (1, .int x1), (2, .int x2), (3, .int x3), (4, .int x4), (5, .int 0), (6, .int v7)]) [1, 2, 3, 4, 5, 6, 0] rfl (by decide) (dk zX11_findErrands 63 rfl) ?_
      refine x_aload_n 0 rfl rfl (dk zX11_findErrands 64 rfl) ?_
      refine x_iload 4 rfl (dk zX11_findErrands 65 rfl) ?_
      refine x_iconst (v := 2) (by decide) (dk zX11_findErrands 66 rfl) ?_
      refine x_idiv (by decide) (dk zX11_findErrands 67 rfl) ?_
      refine x_callV (as := [.int (x4 / 2)]) (o := 123) (ci := 11) (st := []) rfl okRX11_172 npX11_isShut ⟨Nat.le_of_ble_eq_true rfl, Nat.le_of_ble_eq_true rfl⟩ k123 (by decide) rfl (Nat.le_of_ble_eq_true rfl) (dk zX11_findErrands 68 rfl) ?_
      refine hv7.mono ?_
      rintro _ m8 ⟨r9, rfl, hm8⟩
      show Ex E MX11_findErrands Q 116 [(0, .ref 123), (1, .int x1), (2, .int x2), (3, .int x3), (4, .int x4), (5, .int 0), (6, .int v7)] [.int r9] m8
      refine x_if_ne (tgt := 174) (by decide) (dk zX11_findErrands 69 rfl) (fun c10 => ?_) (fun c10 => ?_)
      · have hc10t := hm8.1 c10
        obtain ⟨v11, ev11⟩ : ∃ y : Int32, y = x4 + 1 := ⟨_, rfl⟩
        have hv11 := hc10t v11 ev11
        refine x_iinc (v := v11) (l' := [(0, .ref 123), (1, .int x1), (2, .int x2), (3, .int x3), (4, .int v11), (5, .int 0), (6, .int v7)]) 4 rfl (by rw [ev11]; rfl) [1, 2, 3, 4, 0, 5, 6] rfl (by decide) (dk zX11_findErrands 103 rfl) ?_
        refine x_goto (tgt := 59) (by decide) (dk zX11_findErrands 104 rfl) ?_
        exact x_sub [0, 1, 2, 3, 4] rfl hv11
      · have hc10f := hm8.2 c10
        refine x_aload_n 0 rfl rfl (dk zX11_findErrands 70 rfl) ?_
        refine x_iload 4 rfl (dk zX11_findErrands 71 rfl) ?_
        refine x_callV (as := [.int x4]) (o := 123) (ci := 11) (st := []) rfl okRX11_166 npX11_start ⟨Nat.le_of_ble_eq_true rfl, Nat.le_of_ble_eq_true rfl⟩ k123 (by decide) rfl (Nat.le_of_ble_eq_true rfl) (dk zX11_findErrands 72 rfl) ?_
        refine hc10f.mono ?_
        rintro _ m12 ⟨r13, rfl, hm12⟩
        show Ex E MX11_findErrands Q 125 [(0, .ref 123), (1, .int x1), (2, .int x2), (3, .int x3), (4, .int x4), (5, .int 0), (6, .int v7)] [.int r13] m12
        refine x_iload_n 3 rfl rfl (dk zX11_findErrands 73 rfl) ?_
        refine x_bipush (v := 8) (by decide) (dk zX11_findErrands 74 rfl) ?_
        refine x_irem (by decide) (dk zX11_findErrands 75 rfl) ?_
        refine x_icmp_ne (tgt := 174) (by decide) (dk zX11_findErrands 76 rfl) (fun c14 => ?_) (fun c14 => ?_)
        · have hc14t := hm12.1 c14
          obtain ⟨v15, ev15⟩ : ∃ y : Int32, y = x4 + 1 := ⟨_, rfl⟩
          have hv15 := hc14t v15 ev15
          refine x_iinc (v := v15) (l' := [(0, .ref 123), (1, .int x1), (2, .int x2), (3, .int x3), (4, .int v15), (5, .int 0), (6, .int v7)]) 4 rfl (by rw [ev15]; rfl) [1, 2, 3, 4, 0, 5, 6] rfl (by decide) (dk zX11_findErrands 103 rfl) ?_
          refine x_goto (tgt := 59) (by decide) (dk zX11_findErrands 104 rfl) ?_
          exact x_sub [0, 1, 2, 3, 4] rfl hv15
        · have hc14f := hm12.2 c14
          refine x_iload 6 rfl (dk zX11_findErrands 77 rfl) ?_
          refine x_bipush (v := 96) (by decide) (dk zX11_findErrands 78 rfl) ?_
          refine x_icmp_ge (tgt := 174) (by decide) (dk zX11_findErrands 79 rfl) (fun c16 => ?_) (fun c16 => ?_)
          · have hc16t := hc14f.1 c16
            obtain ⟨v17, ev17⟩ : ∃ y : Int32, y = x4 + 1 := ⟨_, rfl⟩
            have hv17 := hc16t v17 ev17
            refine x_iinc (v := v17) (l' := [(0, .ref 123), (1, .int x1), (2, .int x2), (3, .int x3), (4, .int v17), (5, .int 0), (6, .int v7)]) 4 rfl (by rw [ev17]; rfl) [1, 2, 3, 4, 0, 5, 6] rfl (by decide) (dk zX11_findErrands 103 rfl) ?_
            refine x_goto (tgt := 59) (by decide) (dk zX11_findErrands 104 rfl) ?_
            exact x_sub [0, 1, 2, 3, 4] rfl hv17
          · have hc16f := hc14f.2 c16
            refine x_aload_n 0 rfl rfl (dk zX11_findErrands 80 rfl) ?_
            refine gf11_24 (r := 138) rfl k123 r123_24 (dk zX11_findErrands 81 rfl) ?_
            refine x_iload_n 3 rfl rfl (dk zX11_findErrands 82 rfl) ?_
            have b18 := hc16f.1
            have hb18 := hc16f.2
            refine y_iald (j := x3.toNatClampNeg) k138 l138 b18 rfl (dk zX11_findErrands 83 rfl) ?_
            refine x_iconst (v := 1) (by decide) (dk zX11_findErrands 84 rfl) ?_
            refine x_iadd (dk zX11_findErrands 85 rfl) ?_
            refine x_aload_n 0 rfl rfl (dk zX11_findErrands 86 rfl) ?_
            refine gf11_24 (r := 138) rfl k123 r123_24 (dk zX11_findErrands 87 rfl) ?_
            refine x_iload 6 rfl (dk zX11_findErrands 88 rfl) ?_
            have b19 := hb18.1
            have hb19 := hb18.2
            refine y_iald (j := v7.toNatClampNeg) k138 l138 b19 rfl (dk zX11_findErrands 89 rfl) ?_
            refine x_icmp_ge (tgt := 174) (by decide) (dk zX11_findErrands 90 rfl) (fun c20 => ?_) (fun c20 => ?_)
            · have hc20t := hb19.1 c20
              obtain ⟨v21, ev21⟩ : ∃ y : Int32, y = x4 + 1 := ⟨_, rfl⟩
              have hv21 := hc20t v21 ev21
              refine x_iinc (v := v21) (l' := [(0, .ref 123), (1, .int x1), (2, .int x2), (3, .int x3), (4, .int v21), (5, .int 0), (6, .int v7)]) 4 rfl (by rw [ev21]; rfl) [1, 2, 3, 4, 0, 5, 6] rfl (by decide) (dk zX11_findErrands 103 rfl) ?_
              refine x_goto (tgt := 59) (by decide) (dk zX11_findErrands 104 rfl) ?_
              exact x_sub [0, 1, 2, 3, 4] rfl hv21
            · have hc20f := hb19.2 c20
              refine x_aload_n 0 rfl rfl (dk zX11_findErrands 91 rfl) ?_
              refine gf11_24 (r := 138) rfl k123 r123_24 (dk zX11_findErrands 92 rfl) ?_
              refine x_iload 6 rfl (dk zX11_findErrands 93 rfl) ?_
              refine x_aload_n 0 rfl rfl (dk zX11_findErrands 94 rfl) ?_
              refine gf11_24 (r := 138) rfl k123 r123_24 (dk zX11_findErrands 95 rfl) ?_
              refine x_iload_n 3 rfl rfl (dk zX11_findErrands 96 rfl) ?_
              refine y_iald (j := x3.toNatClampNeg) k138 l138 b18 rfl (dk zX11_findErrands 97 rfl) ?_
              refine x_iconst (v := 1) (by decide) (dk zX11_findErrands 98 rfl) ?_
              refine x_iadd (dk zX11_findErrands 99 rfl) ?_
              refine x_topi (fun v22 ev22 => ?_)
              have hv22 := hc20f v22 ev22
              refine y_iast (j := v7.toNatClampNeg) k138 l138 b19 rfl (dk zX11_findErrands 100 rfl) ?_
              refine x_iconst (v := 1) (by decide) (dk zX11_findErrands 101 rfl) ?_
              refine x_istore_n (k := 2) (l' := [(0, .ref 123), (1, .int x1), (2, .int 1), (3, .int x3), (4, .int x4), (5, .int 0), (6, .int v7)]) [1, 2, 0, 3, 4, 5, 6] rfl rfl (by decide) (dk zX11_findErrands 102 rfl) ?_
              obtain ⟨v23, ev23⟩ : ∃ y : Int32, y = x4 + 1 := ⟨_, rfl⟩
              have hv23 := hv22 v23 ev23
              refine x_iinc (v := v23) (l' := [(0, .ref 123), (1, .int x1), (2, .int 1), (3, .int x3), (4, .int v23), (5, .int 0), (6, .int v7)]) 4 rfl (by rw [ev23]; rfl) [1, 2, 3, 4, 0, 5, 6] rfl (by decide) (dk zX11_findErrands 103 rfl) ?_
              refine x_goto (tgt := 59) (by decide) (dk zX11_findErrands 104 rfl) ?_
              exact x_sub [0, 1, 2, 3, 4] rfl hv23
    · have hc4f := hb3.2 c4
      refine x_iconst (v := 1) (by decide) (dk zX11_findErrands 48 rfl) ?_
      refine x_goto (tgt := 87) (by decide) (dk zX11_findErrands 49 rfl) ?_
      refine x_istoreG (l' := [(0, .ref 123), (1, .int x1), (2, .int x2), (3, .int x3), (4, .int x4), (5, .int 1)]) [1, 2, 3, 4, 5, 0] rfl (by decide) (dk zX11_findErrands 51 rfl) ?_
      refine x_bipush (v := 8) (by decide) (dk zX11_findErrands 52 rfl) ?_
      refine x_iload_n 3 rfl rfl (dk zX11_findErrands 53 rfl) ?_
      refine x_bipush (v := 8) (by decide) (dk zX11_findErrands 54 rfl) ?_
      refine x_idiv (by decide) (dk zX11_findErrands 55 rfl) ?_
      refine x_iload 5 rfl (dk zX11_findErrands 56 rfl) ?_
      refine x_iadd (dk zX11_findErrands 57 rfl) ?_
      refine x_imul (dk zX11_findErrands 58 rfl) ?_
      refine x_aload_n 0 rfl rfl (dk zX11_findErrands 59 rfl) ?_
      refine x_iload 4 rfl (dk zX11_findErrands 60 rfl) ?_
      refine x_callV (as := [.int x4]) (o := 123) (ci := 11) (st := [.int (8 * ((x3 / 8) + 1))]) rfl okRX11_202 npX11_end ⟨Nat.le_of_ble_eq_true rfl, Nat.le_of_ble_eq_true rfl⟩ k123 (by decide) rfl (Nat.le_of_ble_eq_true rfl) (dk zX11_findErrands 61 rfl) ?_
      refine hc4f.mono ?_
      rintro _ m24 ⟨r25, rfl, hm24⟩
      show Ex E MX11_findErrands Q 105 [(0, .ref 123), (1, .int x1), (2, .int x2), (3, .int x3), (4, .int x4), (5, .int 1)] [.int r25, .int (8 * ((x3 / 8) + 1))] m24
      refine x_iadd (dk zX11_findErrands 62 rfl) ?_
      refine x_topi (fun v26 ev26 => ?_)
      have hv26 := hm24 v26 ev26
      refine x_istoreG (l' := [(0, .ref 123), (1, .int x1), (2, .int x2), (3, .int x3), (4, .int x4), (5, .int 1), (6, .int v26)]) [1, 2, 3, 4, 5, 6, 0] rfl (by decide) (dk zX11_findErrands 63 rfl) ?_
      refine x_aload_n 0 rfl rfl (dk zX11_findErrands 64 rfl) ?_
      refine x_iload 4 rfl (dk zX11_findErrands 65 rfl) ?_
      refine x_iconst (v := 2) (by decide) (dk zX11_findErrands 66 rfl) ?_
      refine x_idiv (by decide) (dk zX11_findErrands 67 rfl) ?_
      refine x_callV (as := [.int (x4 / 2)]) (o := 123) (ci := 11) (st := []) rfl okRX11_172 npX11_isShut ⟨Nat.le_of_ble_eq_true rfl, Nat.le_of_ble_eq_true rfl⟩ k123 (by decide) rfl (Nat.le_of_ble_eq_true rfl) (dk zX11_findErrands 68 rfl) ?_
      refine hv26.mono ?_
      rintro _ m27 ⟨r28, rfl, hm27⟩
      show Ex E MX11_findErrands Q 116 [(0, .ref 123), (1, .int x1), (2, .int x2), (3, .int x3), (4, .int x4), (5, .int 1), (6, .int v26)] [.int r28] m27
      refine x_if_ne (tgt := 174) (by decide) (dk zX11_findErrands 69 rfl) (fun c29 => ?_) (fun c29 => ?_)
      · have hc29t := hm27.1 c29
        obtain ⟨v30, ev30⟩ : ∃ y : Int32, y = x4 + 1 := ⟨_, rfl⟩
        have hv30 := hc29t v30 ev30
        refine x_iinc (v := v30) (l' := [(0, .ref 123), (1, .int x1), (2, .int x2), (3, .int x3), (4, .int v30), (5, .int 1), (6, .int v26)]) 4 rfl (by rw [ev30]; rfl) [1, 2, 3, 4, 0, 5, 6] rfl (by decide) (dk zX11_findErrands 103 rfl) ?_
        refine x_goto (tgt := 59) (by decide) (dk zX11_findErrands 104 rfl) ?_
        exact x_sub [0, 1, 2, 3, 4] rfl hv30
      · have hc29f := hm27.2 c29
        refine x_aload_n 0 rfl rfl (dk zX11_findErrands 70 rfl) ?_
        refine x_iload 4 rfl (dk zX11_findErrands 71 rfl) ?_
        refine x_callV (as := [.int x4]) (o := 123) (ci := 11) (st := []) rfl okRX11_166 npX11_start ⟨Nat.le_of_ble_eq_true rfl, Nat.le_of_ble_eq_true rfl⟩ k123 (by decide) rfl (Nat.le_of_ble_eq_true rfl) (dk zX11_findErrands 72 rfl) ?_
        refine hc29f.mono ?_
        rintro _ m31 ⟨r32, rfl, hm31⟩
        show Ex E MX11_findErrands Q 125 [(0, .ref 123), (1, .int x1), (2, .int x2), (3, .int x3), (4, .int x4), (5, .int 1), (6, .int v26)] [.int r32] m31
        refine x_iload_n 3 rfl rfl (dk zX11_findErrands 73 rfl) ?_
        refine x_bipush (v := 8) (by decide) (dk zX11_findErrands 74 rfl) ?_
        refine x_irem (by decide) (dk zX11_findErrands 75 rfl) ?_
        refine x_icmp_ne (tgt := 174) (by decide) (dk zX11_findErrands 76 rfl) (fun c33 => ?_) (fun c33 => ?_)
        · have hc33t := hm31.1 c33
          obtain ⟨v34, ev34⟩ : ∃ y : Int32, y = x4 + 1 := ⟨_, rfl⟩
          have hv34 := hc33t v34 ev34
          refine x_iinc (v := v34) (l' := [(0, .ref 123), (1, .int x1), (2, .int x2), (3, .int x3), (4, .int v34), (5, .int 1), (6, .int v26)]) 4 rfl (by rw [ev34]; rfl) [1, 2, 3, 4, 0, 5, 6] rfl (by decide) (dk zX11_findErrands 103 rfl) ?_
          refine x_goto (tgt := 59) (by decide) (dk zX11_findErrands 104 rfl) ?_
          exact x_sub [0, 1, 2, 3, 4] rfl hv34
        · have hc33f := hm31.2 c33
          refine x_iload 6 rfl (dk zX11_findErrands 77 rfl) ?_
          refine x_bipush (v := 96) (by decide) (dk zX11_findErrands 78 rfl) ?_
          refine x_icmp_ge (tgt := 174) (by decide) (dk zX11_findErrands 79 rfl) (fun c35 => ?_) (fun c35 => ?_)
          · have hc35t := hc33f.1 c35
            obtain ⟨v36, ev36⟩ : ∃ y : Int32, y = x4 + 1 := ⟨_, rfl⟩
            have hv36 := hc35t v36 ev36
            refine x_iinc (v := v36) (l' := [(0, .ref 123), (1, .int x1), (2, .int x2), (3, .int x3), (4, .int v36), (5, .int 1), (6, .int v26)]) 4 rfl (by rw [ev36]; rfl) [1, 2, 3, 4, 0, 5, 6] rfl (by decide) (dk zX11_findErrands 103 rfl) ?_
            refine x_goto (tgt := 59) (by decide) (dk zX11_findErrands 104 rfl) ?_
            exact x_sub [0, 1, 2, 3, 4] rfl hv36
          · have hc35f := hc33f.2 c35
            refine x_aload_n 0 rfl rfl (dk zX11_findErrands 80 rfl) ?_
            refine gf11_24 (r := 138) rfl k123 r123_24 (dk zX11_findErrands 81 rfl) ?_
            refine x_iload_n 3 rfl rfl (dk zX11_findErrands 82 rfl) ?_
            have b37 := hc35f.1
            have hb37 := hc35f.2
            refine y_iald (j := x3.toNatClampNeg) k138 l138 b37 rfl (dk zX11_findErrands 83 rfl) ?_
            refine x_iconst (v := 1) (by decide) (dk zX11_findErrands 84 rfl) ?_
            refine x_iadd (dk zX11_findErrands 85 rfl) ?_
            refine x_aload_n 0 rfl rfl (dk zX11_findErrands 86 rfl) ?_
            refine gf11_24 (r := 138) rfl k123 r123_24 (dk zX11_findErrands 87 rfl) ?_
            refine x_iload 6 rfl (dk zX11_findErrands 88 rfl) ?_
            have b38 := hb37.1
            have hb38 := hb37.2
            refine y_iald (j := v26.toNatClampNeg) k138 l138 b38 rfl (dk zX11_findErrands 89 rfl) ?_
            refine x_icmp_ge (tgt := 174) (by decide) (dk zX11_findErrands 90 rfl) (fun c39 => ?_) (fun c39 => ?_)
            · have hc39t := hb38.1 c39
              obtain ⟨v40, ev40⟩ : ∃ y : Int32, y = x4 + 1 := ⟨_, rfl⟩
              have hv40 := hc39t v40 ev40
              refine x_iinc (v := v40) (l' := [(0, .ref 123), (1, .int x1), (2, .int x2), (3, .int x3), (4, .int v40), (5, .int 1), (6, .int v26)]) 4 rfl (by rw [ev40]; rfl) [1, 2, 3, 4, 0, 5, 6] rfl (by decide) (dk zX11_findErrands 103 rfl) ?_
              refine x_goto (tgt := 59) (by decide) (dk zX11_findErrands 104 rfl) ?_
              exact x_sub [0, 1, 2, 3, 4] rfl hv40
            · have hc39f := hb38.2 c39
              refine x_aload_n 0 rfl rfl (dk zX11_findErrands 91 rfl) ?_
              refine gf11_24 (r := 138) rfl k123 r123_24 (dk zX11_findErrands 92 rfl) ?_
              refine x_iload 6 rfl (dk zX11_findErrands 93 rfl) ?_
              refine x_aload_n 0 rfl rfl (dk zX11_findErrands 94 rfl) ?_
              refine gf11_24 (r := 138) rfl k123 r123_24 (dk zX11_findErrands 95 rfl) ?_
              refine x_iload_n 3 rfl rfl (dk zX11_findErrands 96 rfl) ?_
              refine y_iald (j := x3.toNatClampNeg) k138 l138 b37 rfl (dk zX11_findErrands 97 rfl) ?_
              refine x_iconst (v := 1) (by decide) (dk zX11_findErrands 98 rfl) ?_
              refine x_iadd (dk zX11_findErrands 99 rfl) ?_
              refine x_topi (fun v41 ev41 => ?_)
              have hv41 := hc39f v41 ev41
              refine y_iast (j := v26.toNatClampNeg) k138 l138 b38 rfl (dk zX11_findErrands 100 rfl) ?_
              refine x_iconst (v := 1) (by decide) (dk zX11_findErrands 101 rfl) ?_
              refine x_istore_n (k := 2) (l' := [(0, .ref 123), (1, .int x1), (2, .int 1), (3, .int x3), (4, .int x4), (5, .int 1), (6, .int v26)]) [1, 2, 0, 3, 4, 5, 6] rfl rfl (by decide) (dk zX11_findErrands 102 rfl) ?_
              obtain ⟨v42, ev42⟩ : ∃ y : Int32, y = x4 + 1 := ⟨_, rfl⟩
              have hv42 := hv41 v42 ev42
              refine x_iinc (v := v42) (l' := [(0, .ref 123), (1, .int x1), (2, .int 1), (3, .int x3), (4, .int v42), (5, .int 1), (6, .int v26)]) 4 rfl (by rw [ev42]; rfl) [1, 2, 3, 4, 0, 5, 6] rfl (by decide) (dk zX11_findErrands 103 rfl) ?_
              refine x_goto (tgt := 59) (by decide) (dk zX11_findErrands 104 rfl) ?_
              exact x_sub [0, 1, 2, 3, 4] rfl hv42
set_option maxRecDepth 20000 in
set_option maxHeartbeats 2000000 in
theorem gX11_stampsTo_0 {E : EV} {Q : Po} {μ : Mem} {x1 : Int32} (h : Ex E MX11_stampsTo Q 2 [(0, .ref 123), (1, .int x1), (2, .int 0)] [] μ) : Ex E MX11_stampsTo Q 0 [(0, .ref 123), (1, .int x1)] [] μ := by
  refine x_iconst (v := 0) (by decide) (dk zX11_stampsTo 0 rfl) ?_
  refine x_istore_n (k := 2) (l' := [(0, .ref 123), (1, .int x1), (2, .int 0)]) [1, 2, 0] rfl rfl (by decide) (dk zX11_stampsTo 1 rfl) ?_
  exact h
set_option maxRecDepth 20000 in
set_option maxHeartbeats 2000000 in
theorem gX11_stampsTo_2 {E : EV} {Q : Po} {μ : Mem} {x1 : Int32} {x2 : Int32} (h : ((11 < x2 → Q (some (.int 1000)) μ) ∧ (¬ 11 < x2 → vp_in ((8 * x2) + x1) 96 ∧ (((1000 ≤ (μ.1 138 (((8 * x2) + x1).toNatClampNeg)) → ∀ v4 : Int32, v4 = x2 + 1 → Ex E MX11_stampsTo Q 2 [(0, .ref 123), (1, .int x1), (2, .int v4)] [] μ) ∧ (¬ 1000 ≤ (μ.1 138 (((8 * x2) + x1).toNatClampNeg)) → Q (some (.int x2)) μ)))))) : Ex E MX11_stampsTo Q 2 [(0, .ref 123), (1, .int x1), (2, .int x2)] [] μ := by
  refine x_iload_n 2 rfl rfl (dk zX11_stampsTo 2 rfl) ?_
  refine x_bipush (v := 11) (by decide) (dk zX11_stampsTo 3 rfl) ?_
  refine x_icmp_gt (tgt := 33) (by decide) (dk zX11_stampsTo 4 rfl) (fun c1 => ?_) (fun c1 => ?_)
  · have hc1t := h.1 c1
    refine x_sipush (v := 1000) (by decide) (dk zX11_stampsTo 19 rfl) ?_
    exact x_iret (ty := .int) rfl rfl (dk zX11_stampsTo 20 rfl) hc1t
  · have hc1f := h.2 c1
    refine x_aload_n 0 rfl rfl (dk zX11_stampsTo 5 rfl) ?_
    refine gf11_24 (r := 138) rfl k123 r123_24 (dk zX11_stampsTo 6 rfl) ?_
    refine x_bipush (v := 8) (by decide) (dk zX11_stampsTo 7 rfl) ?_
    refine x_iload_n 2 rfl rfl (dk zX11_stampsTo 8 rfl) ?_
    refine x_imul (dk zX11_stampsTo 9 rfl) ?_
    refine x_iload_n 1 rfl rfl (dk zX11_stampsTo 10 rfl) ?_
    refine x_iadd (dk zX11_stampsTo 11 rfl) ?_
    have b2 := hc1f.1
    have hb2 := hc1f.2
    refine y_iald (j := ((8 * x2) + x1).toNatClampNeg) k138 l138 b2 rfl (dk zX11_stampsTo 12 rfl) ?_
    refine x_sipush (v := 1000) (by decide) (dk zX11_stampsTo 13 rfl) ?_
    refine x_icmp_ge (tgt := 27) (by decide) (dk zX11_stampsTo 14 rfl) (fun c3 => ?_) (fun c3 => ?_)
    · have hc3t := hb2.1 c3
      obtain ⟨v4, ev4⟩ : ∃ y : Int32, y = x2 + 1 := ⟨_, rfl⟩
      have hv4 := hc3t v4 ev4
      refine x_iinc (v := v4) (l' := [(0, .ref 123), (1, .int x1), (2, .int v4)]) 2 rfl (by rw [ev4]; rfl) [1, 2, 0] rfl (by decide) (dk zX11_stampsTo 17 rfl) ?_
      refine x_goto (tgt := 2) (by decide) (dk zX11_stampsTo 18 rfl) ?_
      exact hv4
    · have hc3f := hb2.2 c3
      refine x_iload_n 2 rfl rfl (dk zX11_stampsTo 15 rfl) ?_
      exact x_iret (ty := .int) rfl rfl (dk zX11_stampsTo 16 rfl) hc3f
set_option maxRecDepth 20000 in
set_option maxHeartbeats 2000000 in
theorem gX11_errandsOf_0 {E : EV} {Q : Po} {μ : Mem} {x1 : Int32} {x2 : Int32} {x3 : Int32} (h : Sp E MX11_findErrands [.ref 123, .int x1] μ (fun v m1 => v = none ∧ Ex E MX11_errandsOf Q 11 [(0, .ref 123), (1, .int x1), (2, .int x2), (3, .int x3), (4, .int 0), (5, .int 0)] [] m1)) : Ex E MX11_errandsOf Q 0 [(0, .ref 123), (1, .int x1), (2, .int x2), (3, .int x3)] [] μ := by
  refine x_aload_n 0 rfl rfl (dk zX11_errandsOf 0 rfl) ?_
  refine x_iload_n 1 rfl rfl (dk zX11_errandsOf 1 rfl) ?_
  refine x_callV (as := [.int x1]) (o := 123) (ci := 11) (st := []) rfl okRX11_270 npX11_findErrands ⟨Nat.le_of_ble_eq_true rfl, Nat.le_of_ble_eq_true rfl⟩ k123 (by decide) rfl (Nat.le_of_ble_eq_true rfl) (dk zX11_errandsOf 2 rfl) ?_
  refine h.mono ?_
  rintro _ m1 ⟨rfl, hm1⟩
  show Ex E MX11_errandsOf Q 5 [(0, .ref 123), (1, .int x1), (2, .int x2), (3, .int x3)] [] m1
  refine x_iconst (v := 0) (by decide) (dk zX11_errandsOf 3 rfl) ?_
  refine x_istoreG (l' := [(0, .ref 123), (1, .int x1), (2, .int x2), (3, .int x3), (4, .int 0)]) [1, 2, 3, 4, 0] rfl (by decide) (dk zX11_errandsOf 4 rfl) ?_
  refine x_iconst (v := 0) (by decide) (dk zX11_errandsOf 5 rfl) ?_
  refine x_istoreG (l' := [(0, .ref 123), (1, .int x1), (2, .int x2), (3, .int x3), (4, .int 0), (5, .int 0)]) [1, 2, 3, 4, 5, 0] rfl (by decide) (dk zX11_errandsOf 6 rfl) ?_
  exact hm1
set_option maxRecDepth 20000 in
set_option maxHeartbeats 2000000 in
theorem gX11_errandsOf_11 {E : EV} {Q : Po} {μ : Mem} {x1 : Int32} {x2 : Int32} {x3 : Int32} {x4 : Int32} {x5 : Int32} (h : ((8 ≤ x5 → ((x4 ≤ (μ.1 123 12) → Ex E MX11_errandsOf Q 87 [(0, .ref 123), (1, .int x1), (2, .int x2), (3, .int x3), (4, .int x4), (5, .int 0), (6, .int 0)] [] μ) ∧ (¬ x4 ≤ (μ.1 123 12) → Q (some (.int ((-1)))) μ))) ∧ (¬ 8 ≤ x5 → ((¬ ((x2 >>> ((x5 : Int32) &&& 31)) &&& 1) = 1 → ∀ v4 : Int32, v4 = x5 + 1 → Ex E MX11_errandsOf Q 11 [(0, .ref 123), (1, .int x1), (2, .int x2), (3, .int x3), (4, .int x4), (5, .int v4)] [] μ) ∧ (((x2 >>> ((x5 : Int32) &&& 31)) &&& 1) = 1 → Sp E MX11_stampsTo [.ref 123, .int x5] μ (fun v m5 => ∃ r6 : Int32, v = some (.int r6) ∧ ((r6 ≤ x4 → ∀ v8 : Int32, v8 = x5 + 1 → Ex E MX11_errandsOf Q 11 [(0, .ref 123), (1, .int x1), (2, .int x2), (3, .int x3), (4, .int x4), (5, .int v8)] [] m5) ∧ (¬ r6 ≤ x4 → Sp E MX11_stampsTo [.ref 123, .int x5] m5 (fun v m9 => ∃ r10 : Int32, v = some (.int r10) ∧ ∀ v11 : Int32, v11 = x5 + 1 → Ex E MX11_errandsOf Q 11 [(0, .ref 123), (1, .int x1), (2, .int x2), (3, .int x3), (4, .int r10), (5, .int v11)] [] m9))))))))) : Ex E MX11_errandsOf Q 11 [(0, .ref 123), (1, .int x1), (2, .int x2), (3, .int x3), (4, .int x4), (5, .int x5)] [] μ := by
  refine x_iload 5 rfl (dk zX11_errandsOf 7 rfl) ?_
  refine x_bipush (v := 8) (by decide) (dk zX11_errandsOf 8 rfl) ?_
  refine x_icmp_ge (tgt := 70) (by decide) (dk zX11_errandsOf 9 rfl) (fun c1 => ?_) (fun c1 => ?_)
  · have hc1t := h.1 c1
    refine x_iload 4 rfl (dk zX11_errandsOf 36 rfl) ?_
    refine x_aload_n 0 rfl rfl (dk zX11_errandsOf 37 rfl) ?_
    refine gf11_12 rfl k123 (dk zX11_errandsOf 38 rfl) ?_
    refine x_icmp_le (tgt := 81) (by decide) (dk zX11_errandsOf 39 rfl) (fun c2 => ?_) (fun c2 => ?_)
    · have hc2t := hc1t.1 c2
      refine x_iconst (v := 0) (by decide) (dk zX11_errandsOf 42 rfl) ?_
      refine x_istoreG (l' := [(0, .ref 123), (1, .int x1), (2, .int x2), (3, .int x3), (4, .int x4), (5, .int 0)]) [1, 2, 3, 4, 5, 0] rfl (by decide) (dk zX11_errandsOf 43 rfl) ?_
      refine x_iconst (v := 0) (by decide) (dk zX11_errandsOf 44 rfl) ?_
      refine x_istoreG (l' := [(0, .ref 123), (1, .int x1), (2, .int x2), (3, .int x3), (4, .int x4), (5, .int 0), (6, .int 0)]) [1, 2, 3, 4, 5, 6, 0] rfl (by decide) (dk zX11_errandsOf 45 rfl) ?_
      exact hc2t
    · have hc2f := hc1t.2 c2
      refine x_iconst (v := -1) (by decide) (dk zX11_errandsOf 40 rfl) ?_
      exact x_iret (ty := .int) rfl rfl (dk zX11_errandsOf 41 rfl) hc2f
  · have hc1f := h.2 c1
    refine x_iload_n 2 rfl rfl (dk zX11_errandsOf 10 rfl) ?_
    refine x_iload 5 rfl (dk zX11_errandsOf 11 rfl) ?_
    refine x_ishr (dk zX11_errandsOf 12 rfl) ?_
    refine x_iconst (v := 1) (by decide) (dk zX11_errandsOf 13 rfl) ?_
    refine x_iand (dk zX11_errandsOf 14 rfl) ?_
    refine x_iconst (v := 1) (by decide) (dk zX11_errandsOf 15 rfl) ?_
    refine x_icmp_ne (tgt := 43) (by decide) (dk zX11_errandsOf 16 rfl) (fun c3 => ?_) (fun c3 => ?_)
    · have hc3t := hc1f.1 c3
      refine x_iconst (v := 0) (by decide) (dk zX11_errandsOf 24 rfl) ?_
      refine x_istoreG (l' := [(0, .ref 123), (1, .int x1), (2, .int x2), (3, .int x3), (4, .int x4), (5, .int x5), (6, .int 0)]) [1, 2, 3, 4, 5, 6, 0] rfl (by decide) (dk zX11_errandsOf 25 rfl) ?_
      refine x_iload 6 rfl (dk zX11_errandsOf 26 rfl) ?_
      refine x_if_eq (tgt := 60) (by decide) (dk zX11_errandsOf 27 rfl) (fun _ => ?_) (fun c => absurd c (by decide))
      refine x_iload 4 rfl (dk zX11_errandsOf 32 rfl) ?_
      refine x_istoreG (l' := [(0, .ref 123), (1, .int x1), (2, .int x2), (3, .int x3), (4, .int x4), (5, .int x5), (6, .int 0)]) [1, 2, 3, 4, 0, 5, 6] rfl (by decide) (dk zX11_errandsOf 33 rfl) ?_
      obtain ⟨v4, ev4⟩ : ∃ y : Int32, y = x5 + 1 := ⟨_, rfl⟩
      have hv4 := hc3t v4 ev4
      refine x_iinc (v := v4) (l' := [(0, .ref 123), (1, .int x1), (2, .int x2), (3, .int x3), (4, .int x4), (5, .int v4), (6, .int 0)]) 5 rfl (by rw [ev4]; rfl) [1, 2, 3, 4, 5, 0, 6] rfl (by decide) (dk zX11_errandsOf 34 rfl) ?_
      refine x_goto (tgt := 11) (by decide) (dk zX11_errandsOf 35 rfl) ?_
      exact x_sub [0, 1, 2, 3, 4, 5] rfl hv4
    · have hc3f := hc1f.2 c3
      refine x_aload_n 0 rfl rfl (dk zX11_errandsOf 17 rfl) ?_
      refine x_iload 5 rfl (dk zX11_errandsOf 18 rfl) ?_
      refine x_callV (as := [.int x5]) (o := 123) (ci := 11) (st := []) rfl okRX11_274 npX11_stampsTo ⟨Nat.le_of_ble_eq_true rfl, Nat.le_of_ble_eq_true rfl⟩ k123 (by decide) rfl (Nat.le_of_ble_eq_true rfl) (dk zX11_errandsOf 19 rfl) ?_
      refine hc3f.mono ?_
      rintro _ m5 ⟨r6, rfl, hm5⟩
      show Ex E MX11_errandsOf Q 34 [(0, .ref 123), (1, .int x1), (2, .int x2), (3, .int x3), (4, .int x4), (5, .int x5)] [.int r6] m5
      refine x_iload 4 rfl (dk zX11_errandsOf 20 rfl) ?_
      refine x_icmp_le (tgt := 43) (by decide) (dk zX11_errandsOf 21 rfl) (fun c7 => ?_) (fun c7 => ?_)
      · have hc7t := hm5.1 c7
        refine x_iconst (v := 0) (by decide) (dk zX11_errandsOf 24 rfl) ?_
        refine x_istoreG (l' := [(0, .ref 123), (1, .int x1), (2, .int x2), (3, .int x3), (4, .int x4), (5, .int x5), (6, .int 0)]) [1, 2, 3, 4, 5, 6, 0] rfl (by decide) (dk zX11_errandsOf 25 rfl) ?_
        refine x_iload 6 rfl (dk zX11_errandsOf 26 rfl) ?_
        refine x_if_eq (tgt := 60) (by decide) (dk zX11_errandsOf 27 rfl) (fun _ => ?_) (fun c => absurd c (by decide))
        refine x_iload 4 rfl (dk zX11_errandsOf 32 rfl) ?_
        refine x_istoreG (l' := [(0, .ref 123), (1, .int x1), (2, .int x2), (3, .int x3), (4, .int x4), (5, .int x5), (6, .int 0)]) [1, 2, 3, 4, 0, 5, 6] rfl (by decide) (dk zX11_errandsOf 33 rfl) ?_
        obtain ⟨v8, ev8⟩ : ∃ y : Int32, y = x5 + 1 := ⟨_, rfl⟩
        have hv8 := hc7t v8 ev8
        refine x_iinc (v := v8) (l' := [(0, .ref 123), (1, .int x1), (2, .int x2), (3, .int x3), (4, .int x4), (5, .int v8), (6, .int 0)]) 5 rfl (by rw [ev8]; rfl) [1, 2, 3, 4, 5, 0, 6] rfl (by decide) (dk zX11_errandsOf 34 rfl) ?_
        refine x_goto (tgt := 11) (by decide) (dk zX11_errandsOf 35 rfl) ?_
        exact x_sub [0, 1, 2, 3, 4, 5] rfl hv8
      · have hc7f := hm5.2 c7
        refine x_iconst (v := 1) (by decide) (dk zX11_errandsOf 22 rfl) ?_
        refine x_goto (tgt := 44) (by decide) (dk zX11_errandsOf 23 rfl) ?_
        refine x_istoreG (l' := [(0, .ref 123), (1, .int x1), (2, .int x2), (3, .int x3), (4, .int x4), (5, .int x5), (6, .int 1)]) [1, 2, 3, 4, 5, 6, 0] rfl (by decide) (dk zX11_errandsOf 25 rfl) ?_
        refine x_iload 6 rfl (dk zX11_errandsOf 26 rfl) ?_
        refine x_if_eq (tgt := 60) (by decide) (dk zX11_errandsOf 27 rfl) (fun c => absurd c (by decide)) (fun _ => ?_)
        refine x_aload_n 0 rfl rfl (dk zX11_errandsOf 28 rfl) ?_
        refine x_iload 5 rfl (dk zX11_errandsOf 29 rfl) ?_
        refine x_callV (as := [.int x5]) (o := 123) (ci := 11) (st := []) rfl okRX11_274 npX11_stampsTo ⟨Nat.le_of_ble_eq_true rfl, Nat.le_of_ble_eq_true rfl⟩ k123 (by decide) rfl (Nat.le_of_ble_eq_true rfl) (dk zX11_errandsOf 30 rfl) ?_
        refine hc7f.mono ?_
        rintro _ m9 ⟨r10, rfl, hm9⟩
        show Ex E MX11_errandsOf Q 57 [(0, .ref 123), (1, .int x1), (2, .int x2), (3, .int x3), (4, .int x4), (5, .int x5), (6, .int 1)] [.int r10] m9
        refine x_goto (tgt := 62) (by decide) (dk zX11_errandsOf 31 rfl) ?_
        refine x_istoreG (l' := [(0, .ref 123), (1, .int x1), (2, .int x2), (3, .int x3), (4, .int r10), (5, .int x5), (6, .int 1)]) [1, 2, 3, 4, 0, 5, 6] rfl (by decide) (dk zX11_errandsOf 33 rfl) ?_
        obtain ⟨v11, ev11⟩ : ∃ y : Int32, y = x5 + 1 := ⟨_, rfl⟩
        have hv11 := hm9 v11 ev11
        refine x_iinc (v := v11) (l' := [(0, .ref 123), (1, .int x1), (2, .int x2), (3, .int x3), (4, .int r10), (5, .int v11), (6, .int 1)]) 5 rfl (by rw [ev11]; rfl) [1, 2, 3, 4, 5, 0, 6] rfl (by decide) (dk zX11_errandsOf 34 rfl) ?_
        refine x_goto (tgt := 11) (by decide) (dk zX11_errandsOf 35 rfl) ?_
        exact x_sub [0, 1, 2, 3, 4, 5] rfl hv11
set_option maxRecDepth 20000 in
set_option maxHeartbeats 2000000 in
theorem gX11_errandsOf_87 {E : EV} {Q : Po} {μ : Mem} {x1 : Int32} {x2 : Int32} {x3 : Int32} {x4 : Int32} {x5 : Int32} {x6 : Int32} (h : ((8 ≤ x6 → ((¬ x3 = 0 → Q (some (.int x5)) μ) ∧ (x3 = 0 → Q (some (.int x4)) μ))) ∧ (¬ 8 ≤ x6 → Ex E MX11_errandsOf Q 102 [(0, .ref 123), (1, .int x1), (2, .int x2), (3, .int x3), (4, .int x4), (5, .int x5), (6, .int x6), (7, .int 1000), (8, .int 0)] [] μ))) : Ex E MX11_errandsOf Q 87 [(0, .ref 123), (1, .int x1), (2, .int x2), (3, .int x3), (4, .int x4), (5, .int x5), (6, .int x6)] [] μ := by
  refine x_iload 6 rfl (dk zX11_errandsOf 46 rfl) ?_
  refine x_bipush (v := 8) (by decide) (dk zX11_errandsOf 47 rfl) ?_
  refine x_icmp_ge (tgt := 182) (by decide) (dk zX11_errandsOf 48 rfl) (fun c1 => ?_) (fun c1 => ?_)
  · have hc1t := h.1 c1
    refine x_iload_n 3 rfl rfl (dk zX11_errandsOf 96 rfl) ?_
    refine x_if_ne (tgt := 191) (by decide) (dk zX11_errandsOf 97 rfl) (fun c2 => ?_) (fun c2 => ?_)
    · have hc2t := hc1t.1 c2
      refine x_iload 5 rfl (dk zX11_errandsOf 100 rfl) ?_
      exact x_iret (ty := .int) rfl rfl (dk zX11_errandsOf 101 rfl) hc2t
    · have hc2f := hc1t.2 c2
      refine x_iload 4 rfl (dk zX11_errandsOf 98 rfl) ?_
      refine x_goto (tgt := 193) (by decide) (dk zX11_errandsOf 99 rfl) ?_
      exact x_iret (ty := .int) rfl rfl (dk zX11_errandsOf 101 rfl) hc2f
  · have hc1f := h.2 c1
    refine x_sipush (v := 1000) (by decide) (dk zX11_errandsOf 49 rfl) ?_
    refine x_istoreG (l' := [(0, .ref 123), (1, .int x1), (2, .int x2), (3, .int x3), (4, .int x4), (5, .int x5), (6, .int x6), (7, .int 1000)]) [1, 2, 3, 4, 5, 6, 7, 0] rfl (by decide) (dk zX11_errandsOf 50 rfl) ?_
    refine x_iconst (v := 0) (by decide) (dk zX11_errandsOf 51 rfl) ?_
    refine x_istoreG (l' := [(0, .ref 123), (1, .int x1), (2, .int x2), (3, .int x3), (4, .int x4), (5, .int x5), (6, .int x6), (7, .int 1000), (8, .int 0)]) [1, 2, 3, 4, 5, 6, 7, 8, 0] rfl (by decide) (dk zX11_errandsOf 52 rfl) ?_
    exact hc1f
set_option maxRecDepth 20000 in
set_option maxHeartbeats 2000000 in
theorem gX11_errandsOf_102 {E : EV} {Q : Po} {μ : Mem} {x1 : Int32} {x2 : Int32} {x3 : Int32} {x4 : Int32} {x5 : Int32} {x6 : Int32} {x7 : Int32} {x8 : Int32} (h : ((x4 < x8 → ((¬ ((x2 >>> ((x6 : Int32) &&& 31)) &&& 1) = 1 → ∀ v3 : Int32, v3 = x5 + 0 → ∀ v4 : Int32, v4 = x6 + 1 → Ex E MX11_errandsOf Q 87 [(0, .ref 123), (1, .int x1), (2, .int x2), (3, .int x3), (4, .int x4), (5, .int v3), (6, .int v4)] [] μ) ∧ (((x2 >>> ((x6 : Int32) &&& 31)) &&& 1) = 1 → ∀ v5 : Int32, v5 = x5 + (2 * x7) → ∀ v6 : Int32, v6 = x6 + 1 → Ex E MX11_errandsOf Q 87 [(0, .ref 123), (1, .int x1), (2, .int x2), (3, .int x3), (4, .int x4), (5, .int v5), (6, .int v6)] [] μ))) ∧ (¬ x4 < x8 → vp_in ((8 * x8) + x6) 96 ∧ (((x7 ≤ (μ.1 138 (((8 * x8) + x6).toNatClampNeg)) → ∀ v9 : Int32, v9 = x8 + 1 → Ex E MX11_errandsOf Q 102 [(0, .ref 123), (1, .int x1), (2, .int x2), (3, .int x3), (4, .int x4), (5, .int x5), (6, .int x6), (7, .int x7), (8, .int v9)] [] μ) ∧ (¬ x7 ≤ (μ.1 138 (((8 * x8) + x6).toNatClampNeg)) → ∀ v10 : Int32, v10 = μ.1 138 (((8 * x8) + x6).toNatClampNeg) → ∀ v11 : Int32, v11 = x8 + 1 → Ex E MX11_errandsOf Q 102 [(0, .ref 123), (1, .int x1), (2, .int x2), (3, .int x3), (4, .int x4), (5, .int x5), (6, .int x6), (7, .int v10), (8, .int v11)] [] μ)))))) : Ex E MX11_errandsOf Q 102 [(0, .ref 123), (1, .int x1), (2, .int x2), (3, .int x3), (4, .int x4), (5, .int x5), (6, .int x6), (7, .int x7), (8, .int x8)] [] μ := by
  refine x_iload 8 rfl (dk zX11_errandsOf 53 rfl) ?_
  refine x_iload 4 rfl (dk zX11_errandsOf 54 rfl) ?_
  refine x_icmp_gt (tgt := 153) (by decide) (dk zX11_errandsOf 55 rfl) (fun c1 => ?_) (fun c1 => ?_)
  · have hc1t := h.1 c1
    refine x_iload 5 rfl (dk zX11_errandsOf 79 rfl) ?_
    refine x_iload_n 2 rfl rfl (dk zX11_errandsOf 80 rfl) ?_
    refine x_iload 6 rfl (dk zX11_errandsOf 81 rfl) ?_
    refine x_ishr (dk zX11_errandsOf 82 rfl) ?_
    refine x_iconst (v := 1) (by decide) (dk zX11_errandsOf 83 rfl) ?_
    refine x_iand (dk zX11_errandsOf 84 rfl) ?_
    refine x_iconst (v := 1) (by decide) (dk zX11_errandsOf 85 rfl) ?_
    refine x_icmp_ne (tgt := 172) (by decide) (dk zX11_errandsOf 86 rfl) (fun c2 => ?_) (fun c2 => ?_)
    · have hc2t := hc1t.1 c2
      refine x_iconst (v := 0) (by decide) (dk zX11_errandsOf 91 rfl) ?_
      refine x_iadd (dk zX11_errandsOf 92 rfl) ?_
      refine x_topi (fun v3 ev3 => ?_)
      have hv3 := hc2t v3 ev3
      refine x_istoreG (l' := [(0, .ref 123), (1, .int x1), (2, .int x2), (3, .int x3), (4, .int x4), (5, .int v3), (6, .int x6), (7, .int x7), (8, .int x8)]) [1, 2, 3, 4, 5, 0, 6, 7, 8] rfl (by decide) (dk zX11_errandsOf 93 rfl) ?_
      obtain ⟨v4, ev4⟩ : ∃ y : Int32, y = x6 + 1 := ⟨_, rfl⟩
      have hv4 := hv3 v4 ev4
      refine x_iinc (v := v4) (l' := [(0, .ref 123), (1, .int x1), (2, .int x2), (3, .int x3), (4, .int x4), (5, .int v3), (6, .int v4), (7, .int x7), (8, .int x8)]) 6 rfl (by rw [ev4]; rfl) [1, 2, 3, 4, 5, 6, 0, 7, 8] rfl (by decide) (dk zX11_errandsOf 94 rfl) ?_
      refine x_goto (tgt := 87) (by decide) (dk zX11_errandsOf 95 rfl) ?_
      exact x_sub [0, 1, 2, 3, 4, 5, 6] rfl hv4
    · have hc2f := hc1t.2 c2
      refine x_iconst (v := 2) (by decide) (dk zX11_errandsOf 87 rfl) ?_
      refine x_iload 7 rfl (dk zX11_errandsOf 88 rfl) ?_
      refine x_imul (dk zX11_errandsOf 89 rfl) ?_
      refine x_goto (tgt := 173) (by decide) (dk zX11_errandsOf 90 rfl) ?_
      refine x_iadd (dk zX11_errandsOf 92 rfl) ?_
      refine x_topi (fun v5 ev5 => ?_)
      have hv5 := hc2f v5 ev5
      refine x_istoreG (l' := [(0, .ref 123), (1, .int x1), (2, .int x2), (3, .int x3), (4, .int x4), (5, .int v5), (6, .int x6), (7, .int x7), (8, .int x8)]) [1, 2, 3, 4, 5, 0, 6, 7, 8] rfl (by decide) (dk zX11_errandsOf 93 rfl) ?_
      obtain ⟨v6, ev6⟩ : ∃ y : Int32, y = x6 + 1 := ⟨_, rfl⟩
      have hv6 := hv5 v6 ev6
      refine x_iinc (v := v6) (l' := [(0, .ref 123), (1, .int x1), (2, .int x2), (3, .int x3), (4, .int x4), (5, .int v5), (6, .int v6), (7, .int x7), (8, .int x8)]) 6 rfl (by rw [ev6]; rfl) [1, 2, 3, 4, 5, 6, 0, 7, 8] rfl (by decide) (dk zX11_errandsOf 94 rfl) ?_
      refine x_goto (tgt := 87) (by decide) (dk zX11_errandsOf 95 rfl) ?_
      exact x_sub [0, 1, 2, 3, 4, 5, 6] rfl hv6
  · have hc1f := h.2 c1
    refine x_aload_n 0 rfl rfl (dk zX11_errandsOf 56 rfl) ?_
    refine gf11_24 (r := 138) rfl k123 r123_24 (dk zX11_errandsOf 57 rfl) ?_
    refine x_bipush (v := 8) (by decide) (dk zX11_errandsOf 58 rfl) ?_
    refine x_iload 8 rfl (dk zX11_errandsOf 59 rfl) ?_
    refine x_imul (dk zX11_errandsOf 60 rfl) ?_
    refine x_iload 6 rfl (dk zX11_errandsOf 61 rfl) ?_
    refine x_iadd (dk zX11_errandsOf 62 rfl) ?_
    have b7 := hc1f.1
    have hb7 := hc1f.2
    refine y_iald (j := ((8 * x8) + x6).toNatClampNeg) k138 l138 b7 rfl (dk zX11_errandsOf 63 rfl) ?_
    refine x_iload 7 rfl (dk zX11_errandsOf 64 rfl) ?_
    refine x_icmp_ge (tgt := 143) (by decide) (dk zX11_errandsOf 65 rfl) (fun c8 => ?_) (fun c8 => ?_)
    · have hc8t := hb7.1 c8
      refine x_iload 7 rfl (dk zX11_errandsOf 75 rfl) ?_
      refine x_istoreG (l' := [(0, .ref 123), (1, .int x1), (2, .int x2), (3, .int x3), (4, .int x4), (5, .int x5), (6, .int x6), (7, .int x7), (8, .int x8)]) [1, 2, 3, 4, 5, 6, 7, 0, 8] rfl (by decide) (dk zX11_errandsOf 76 rfl) ?_
      obtain ⟨v9, ev9⟩ : ∃ y : Int32, y = x8 + 1 := ⟨_, rfl⟩
      have hv9 := hc8t v9 ev9
      refine x_iinc (v := v9) (l' := [(0, .ref 123), (1, .int x1), (2, .int x2), (3, .int x3), (4, .int x4), (5, .int x5), (6, .int x6), (7, .int x7), (8, .int v9)]) 8 rfl (by rw [ev9]; rfl) [1, 2, 3, 4, 5, 6, 7, 8, 0] rfl (by decide) (dk zX11_errandsOf 77 rfl) ?_
      refine x_goto (tgt := 102) (by decide) (dk zX11_errandsOf 78 rfl) ?_
      exact hv9
    · have hc8f := hb7.2 c8
      refine x_aload_n 0 rfl rfl (dk zX11_errandsOf 66 rfl) ?_
      refine gf11_24 (r := 138) rfl k123 r123_24 (dk zX11_errandsOf 67 rfl) ?_
      refine x_bipush (v := 8) (by decide) (dk zX11_errandsOf 68 rfl) ?_
      refine x_iload 8 rfl (dk zX11_errandsOf 69 rfl) ?_
      refine x_imul (dk zX11_errandsOf 70 rfl) ?_
      refine x_iload 6 rfl (dk zX11_errandsOf 71 rfl) ?_
      refine x_iadd (dk zX11_errandsOf 72 rfl) ?_
      refine y_iald (j := ((8 * x8) + x6).toNatClampNeg) k138 l138 b7 rfl (dk zX11_errandsOf 73 rfl) ?_
      refine x_goto (tgt := 145) (by decide) (dk zX11_errandsOf 74 rfl) ?_
      refine x_topi (fun v10 ev10 => ?_)
      have hv10 := hc8f v10 ev10
      refine x_istoreG (l' := [(0, .ref 123), (1, .int x1), (2, .int x2), (3, .int x3), (4, .int x4), (5, .int x5), (6, .int x6), (7, .int v10), (8, .int x8)]) [1, 2, 3, 4, 5, 6, 7, 0, 8] rfl (by decide) (dk zX11_errandsOf 76 rfl) ?_
      obtain ⟨v11, ev11⟩ : ∃ y : Int32, y = x8 + 1 := ⟨_, rfl⟩
      have hv11 := hv10 v11 ev11
      refine x_iinc (v := v11) (l' := [(0, .ref 123), (1, .int x1), (2, .int x2), (3, .int x3), (4, .int x4), (5, .int x5), (6, .int x6), (7, .int v10), (8, .int v11)]) 8 rfl (by rw [ev11]; rfl) [1, 2, 3, 4, 5, 6, 7, 8, 0] rfl (by decide) (dk zX11_errandsOf 77 rfl) ?_
      refine x_goto (tgt := 102) (by decide) (dk zX11_errandsOf 78 rfl) ?_
      exact hv11
set_option maxRecDepth 20000 in
set_option maxHeartbeats 2000000 in
theorem gX11_errands_0 {E : EV} {Q : Po} {μ : Mem} {x1 : Int32} {x2 : Int32} {x3 : Int32} (h : Sp E MX11_isTown [.int x1] μ (fun v m1 => ∃ r2 : Int32, v = some (.int r2) ∧ ((r2 = 0 → Q (some (.int ((-2)))) m1) ∧ (¬ r2 = 0 → Sp E MX11_in [.long (Int32.toInt64 x2), .long 0, .long ((255))] m1 (fun v m4 => ∃ r5 : Int32, v = some (.int r5) ∧ ((r5 = 0 → Q (some (.int ((-2)))) m4) ∧ (¬ r5 = 0 → Sp E MX11_isTwo [.int x3] m4 (fun v m7 => ∃ r8 : Int32, v = some (.int r8) ∧ ((r8 = 0 → Q (some (.int ((-2)))) m7) ∧ (¬ r8 = 0 → Sp E MX11_errandsOf [.ref 123, .int x1, .int x2, .int x3] m7 (fun v m10 => ∃ r11 : Int32, v = some (.int r11) ∧ Q (some (.int r11)) m10))))))))))) : Ex E MX11_errands Q 0 [(0, .ref 123), (1, .int x1), (2, .int x2), (3, .int x3)] [] μ := by
  refine x_iload_n 1 rfl rfl (dk zX11_errands 0 rfl) ?_
  refine x_callS (as := [.int x1]) (st := []) rfl okRX11_148 npX11_isTown ⟨Nat.le_of_ble_eq_true rfl, Nat.le_of_ble_eq_true rfl⟩ (Nat.le_of_ble_eq_true rfl) (dk zX11_errands 1 rfl) ?_
  refine h.mono ?_
  rintro _ m1 ⟨r2, rfl, hm1⟩
  show Ex E MX11_errands Q 4 [(0, .ref 123), (1, .int x1), (2, .int x2), (3, .int x3)] [.int r2] m1
  refine x_if_eq (tgt := 36) (by decide) (dk zX11_errands 2 rfl) (fun c3 => ?_) (fun c3 => ?_)
  · have hc3t := hm1.1 c3
    refine x_bipush (v := -2) (by decide) (dk zX11_errands 18 rfl) ?_
    exact x_iret (ty := .int) rfl rfl (dk zX11_errands 19 rfl) hc3t
  · have hc3f := hm1.2 c3
    refine x_iload_n 2 rfl rfl (dk zX11_errands 3 rfl) ?_
    refine x_i2l (dk zX11_errands 4 rfl) ?_
    refine x_lconst (v := 0) (by decide) (dk zX11_errands 5 rfl) ?_
    refine x_ldc2 (v := 255) rfl wkRX11_120 (dk zX11_errands 6 rfl) ?_
    refine x_callS (as := [.long (Int32.toInt64 x2), .long 0, .long ((255))]) (st := []) rfl okRX11_86 npX11_in ⟨Nat.le_of_ble_eq_true rfl, Nat.le_of_ble_eq_true rfl⟩ (Nat.le_of_ble_eq_true rfl) (dk zX11_errands 7 rfl) ?_
    refine hc3f.mono ?_
    rintro _ m4 ⟨r5, rfl, hm4⟩
    show Ex E MX11_errands Q 16 [(0, .ref 123), (1, .int x1), (2, .int x2), (3, .int x3)] [.int r5] m4
    refine x_if_eq (tgt := 36) (by decide) (dk zX11_errands 8 rfl) (fun c6 => ?_) (fun c6 => ?_)
    · have hc6t := hm4.1 c6
      refine x_bipush (v := -2) (by decide) (dk zX11_errands 18 rfl) ?_
      exact x_iret (ty := .int) rfl rfl (dk zX11_errands 19 rfl) hc6t
    · have hc6f := hm4.2 c6
      refine x_iload_n 3 rfl rfl (dk zX11_errands 9 rfl) ?_
      refine x_callS (as := [.int x3]) (st := []) rfl okRX11_256 npX11_isTwo ⟨Nat.le_of_ble_eq_true rfl, Nat.le_of_ble_eq_true rfl⟩ (Nat.le_of_ble_eq_true rfl) (dk zX11_errands 10 rfl) ?_
      refine hc6f.mono ?_
      rintro _ m7 ⟨r8, rfl, hm7⟩
      show Ex E MX11_errands Q 23 [(0, .ref 123), (1, .int x1), (2, .int x2), (3, .int x3)] [.int r8] m7
      refine x_if_eq (tgt := 36) (by decide) (dk zX11_errands 11 rfl) (fun c9 => ?_) (fun c9 => ?_)
      · have hc9t := hm7.1 c9
        refine x_bipush (v := -2) (by decide) (dk zX11_errands 18 rfl) ?_
        exact x_iret (ty := .int) rfl rfl (dk zX11_errands 19 rfl) hc9t
      · have hc9f := hm7.2 c9
        refine x_aload_n 0 rfl rfl (dk zX11_errands 12 rfl) ?_
        refine x_iload_n 1 rfl rfl (dk zX11_errands 13 rfl) ?_
        refine x_iload_n 2 rfl rfl (dk zX11_errands 14 rfl) ?_
        refine x_iload_n 3 rfl rfl (dk zX11_errands 15 rfl) ?_
        refine x_callV (as := [.int x1, .int x2, .int x3]) (o := 123) (ci := 11) (st := []) rfl okRX11_277 npX11_errandsOf ⟨Nat.le_of_ble_eq_true rfl, Nat.le_of_ble_eq_true rfl⟩ k123 (by decide) rfl (Nat.le_of_ble_eq_true rfl) (dk zX11_errands 16 rfl) ?_
        refine hc9f.mono ?_
        rintro _ m10 ⟨r11, rfl, hm10⟩
        show Ex E MX11_errands Q 33 [(0, .ref 123), (1, .int x1), (2, .int x2), (3, .int x3)] [.int r11] m10
        refine x_goto (tgt := 38) (by decide) (dk zX11_errands 17 rfl) ?_
        exact x_iret (ty := .int) rfl rfl (dk zX11_errands 19 rfl) hm10
set_option maxRecDepth 20000 in
set_option maxHeartbeats 2000000 in
theorem gX11_cleanOf_0 {E : EV} {Q : Po} {μ : Mem} {x1 : Int32} (h : Sp E MX11_findErrands [.ref 123, .int x1] μ (fun v m1 => v = none ∧ Ex E MX11_cleanOf Q 9 [(0, .ref 123), (1, .int x1), (2, .int 0), (3, .int 0)] [] m1)) : Ex E MX11_cleanOf Q 0 [(0, .ref 123), (1, .int x1)] [] μ := by
  refine x_aload_n 0 rfl rfl (dk zX11_cleanOf 0 rfl) ?_
  refine x_iload_n 1 rfl rfl (dk zX11_cleanOf 1 rfl) ?_
  refine x_callV (as := [.int x1]) (o := 123) (ci := 11) (st := []) rfl okRX11_270 npX11_findErrands ⟨Nat.le_of_ble_eq_true rfl, Nat.le_of_ble_eq_true rfl⟩ k123 (by decide) rfl (Nat.le_of_ble_eq_true rfl) (dk zX11_cleanOf 2 rfl) ?_
  refine h.mono ?_
  rintro _ m1 ⟨rfl, hm1⟩
  show Ex E MX11_cleanOf Q 5 [(0, .ref 123), (1, .int x1)] [] m1
  refine x_iconst (v := 0) (by decide) (dk zX11_cleanOf 3 rfl) ?_
  refine x_istore_n (k := 2) (l' := [(0, .ref 123), (1, .int x1), (2, .int 0)]) [1, 2, 0] rfl rfl (by decide) (dk zX11_cleanOf 4 rfl) ?_
  refine x_iconst (v := 0) (by decide) (dk zX11_cleanOf 5 rfl) ?_
  refine x_istore_n (k := 3) (l' := [(0, .ref 123), (1, .int x1), (2, .int 0), (3, .int 0)]) [1, 2, 3, 0] rfl rfl (by decide) (dk zX11_cleanOf 6 rfl) ?_
  exact hm1
set_option maxRecDepth 20000 in
set_option maxHeartbeats 2000000 in
theorem gX11_cleanOf_9 {E : EV} {Q : Po} {μ : Mem} {x1 : Int32} {x2 : Int32} {x3 : Int32} (h : ((8 ≤ x3 → Q (some (.int x2)) μ) ∧ (¬ 8 ≤ x3 → Sp E MX11_stampsTo [.ref 123, .int x3] μ (fun v m2 => ∃ r3 : Int32, v = some (.int r3) ∧ (((m2.1 123 12) < r3 → ∀ v5 : Int32, v5 = x2 ||| 0 → ∀ v6 : Int32, v6 = x3 + 1 → Ex E MX11_cleanOf Q 9 [(0, .ref 123), (1, .int x1), (2, .int v5), (3, .int v6)] [] m2) ∧ (¬ (m2.1 123 12) < r3 → ∀ v7 : Int32, v7 = x2 ||| (1 <<< ((x3 : Int32) &&& 31)) → ∀ v8 : Int32, v8 = x3 + 1 → Ex E MX11_cleanOf Q 9 [(0, .ref 123), (1, .int x1), (2, .int v7), (3, .int v8)] [] m2)))))) : Ex E MX11_cleanOf Q 9 [(0, .ref 123), (1, .int x1), (2, .int x2), (3, .int x3)] [] μ := by
  refine x_iload_n 3 rfl rfl (dk zX11_cleanOf 7 rfl) ?_
  refine x_bipush (v := 8) (by decide) (dk zX11_cleanOf 8 rfl) ?_
  refine x_icmp_ge (tgt := 43) (by decide) (dk zX11_cleanOf 9 rfl) (fun c1 => ?_) (fun c1 => ?_)
  · have hc1t := h.1 c1
    refine x_iload_n 2 rfl rfl (dk zX11_cleanOf 26 rfl) ?_
    exact x_iret (ty := .int) rfl rfl (dk zX11_cleanOf 27 rfl) hc1t
  · have hc1f := h.2 c1
    refine x_iload_n 2 rfl rfl (dk zX11_cleanOf 10 rfl) ?_
    refine x_aload_n 0 rfl rfl (dk zX11_cleanOf 11 rfl) ?_
    refine x_iload_n 3 rfl rfl (dk zX11_cleanOf 12 rfl) ?_
    refine x_callV (as := [.int x3]) (o := 123) (ci := 11) (st := [.int x2]) rfl okRX11_274 npX11_stampsTo ⟨Nat.le_of_ble_eq_true rfl, Nat.le_of_ble_eq_true rfl⟩ k123 (by decide) rfl (Nat.le_of_ble_eq_true rfl) (dk zX11_cleanOf 13 rfl) ?_
    refine hc1f.mono ?_
    rintro _ m2 ⟨r3, rfl, hm2⟩
    show Ex E MX11_cleanOf Q 21 [(0, .ref 123), (1, .int x1), (2, .int x2), (3, .int x3)] [.int r3, .int x2] m2
    refine x_aload_n 0 rfl rfl (dk zX11_cleanOf 14 rfl) ?_
    refine gf11_12 rfl k123 (dk zX11_cleanOf 15 rfl) ?_
    refine x_icmp_gt (tgt := 34) (by decide) (dk zX11_cleanOf 16 rfl) (fun c4 => ?_) (fun c4 => ?_)
    · have hc4t := hm2.1 c4
      refine x_iconst (v := 0) (by decide) (dk zX11_cleanOf 21 rfl) ?_
      refine x_ior (dk zX11_cleanOf 22 rfl) ?_
      refine x_topi (fun v5 ev5 => ?_)
      have hv5 := hc4t v5 ev5
      refine x_istore_n (k := 2) (l' := [(0, .ref 123), (1, .int x1), (2, .int v5), (3, .int x3)]) [1, 2, 0, 3] rfl rfl (by decide) (dk zX11_cleanOf 23 rfl) ?_
      obtain ⟨v6, ev6⟩ : ∃ y : Int32, y = x3 + 1 := ⟨_, rfl⟩
      have hv6 := hv5 v6 ev6
      refine x_iinc (v := v6) (l' := [(0, .ref 123), (1, .int x1), (2, .int v5), (3, .int v6)]) 3 rfl (by rw [ev6]; rfl) [1, 2, 3, 0] rfl (by decide) (dk zX11_cleanOf 24 rfl) ?_
      refine x_goto (tgt := 9) (by decide) (dk zX11_cleanOf 25 rfl) ?_
      exact hv6
    · have hc4f := hm2.2 c4
      refine x_iconst (v := 1) (by decide) (dk zX11_cleanOf 17 rfl) ?_
      refine x_iload_n 3 rfl rfl (dk zX11_cleanOf 18 rfl) ?_
      refine x_ishl (dk zX11_cleanOf 19 rfl) ?_
      refine x_goto (tgt := 35) (by decide) (dk zX11_cleanOf 20 rfl) ?_
      refine x_ior (dk zX11_cleanOf 22 rfl) ?_
      refine x_topi (fun v7 ev7 => ?_)
      have hv7 := hc4f v7 ev7
      refine x_istore_n (k := 2) (l' := [(0, .ref 123), (1, .int x1), (2, .int v7), (3, .int x3)]) [1, 2, 0, 3] rfl rfl (by decide) (dk zX11_cleanOf 23 rfl) ?_
      obtain ⟨v8, ev8⟩ : ∃ y : Int32, y = x3 + 1 := ⟨_, rfl⟩
      have hv8 := hv7 v8 ev8
      refine x_iinc (v := v8) (l' := [(0, .ref 123), (1, .int x1), (2, .int v7), (3, .int v8)]) 3 rfl (by rw [ev8]; rfl) [1, 2, 3, 0] rfl (by decide) (dk zX11_cleanOf 24 rfl) ?_
      refine x_goto (tgt := 9) (by decide) (dk zX11_cleanOf 25 rfl) ?_
      exact hv8
set_option maxRecDepth 20000 in
set_option maxHeartbeats 2000000 in
theorem gX11_clean_0 {E : EV} {Q : Po} {μ : Mem} {x1 : Int32} (h : Sp E MX11_isTown [.int x1] μ (fun v m1 => ∃ r2 : Int32, v = some (.int r2) ∧ ((r2 = 0 → Q (some (.int ((-2)))) m1) ∧ (¬ r2 = 0 → Sp E MX11_cleanOf [.ref 123, .int x1] m1 (fun v m4 => ∃ r5 : Int32, v = some (.int r5) ∧ Q (some (.int r5)) m4))))) : Ex E MX11_clean Q 0 [(0, .ref 123), (1, .int x1)] [] μ := by
  refine x_iload_n 1 rfl rfl (dk zX11_clean 0 rfl) ?_
  refine x_callS (as := [.int x1]) (st := []) rfl okRX11_148 npX11_isTown ⟨Nat.le_of_ble_eq_true rfl, Nat.le_of_ble_eq_true rfl⟩ (Nat.le_of_ble_eq_true rfl) (dk zX11_clean 1 rfl) ?_
  refine h.mono ?_
  rintro _ m1 ⟨r2, rfl, hm1⟩
  show Ex E MX11_clean Q 4 [(0, .ref 123), (1, .int x1)] [.int r2] m1
  refine x_if_eq (tgt := 15) (by decide) (dk zX11_clean 2 rfl) (fun c3 => ?_) (fun c3 => ?_)
  · have hc3t := hm1.1 c3
    refine x_bipush (v := -2) (by decide) (dk zX11_clean 7 rfl) ?_
    exact x_iret (ty := .int) rfl rfl (dk zX11_clean 8 rfl) hc3t
  · have hc3f := hm1.2 c3
    refine x_aload_n 0 rfl rfl (dk zX11_clean 3 rfl) ?_
    refine x_iload_n 1 rfl rfl (dk zX11_clean 4 rfl) ?_
    refine x_callV (as := [.int x1]) (o := 123) (ci := 11) (st := []) rfl okRX11_280 npX11_cleanOf ⟨Nat.le_of_ble_eq_true rfl, Nat.le_of_ble_eq_true rfl⟩ k123 (by decide) rfl (Nat.le_of_ble_eq_true rfl) (dk zX11_clean 5 rfl) ?_
    refine hc3f.mono ?_
    rintro _ m4 ⟨r5, rfl, hm4⟩
    show Ex E MX11_clean Q 12 [(0, .ref 123), (1, .int x1)] [.int r5] m4
    refine x_goto (tgt := 17) (by decide) (dk zX11_clean 6 rfl) ?_
    exact x_iret (ty := .int) rfl rfl (dk zX11_clean 8 rfl) hm4
set_option maxRecDepth 20000 in
set_option maxHeartbeats 2000000 in
theorem gX11_foundOf_0 {E : EV} {Q : Po} {μ : Mem} {x1 : Int32} {x2 : Int32} (h : Sp E MX11_findPaper [.ref 123, .int 0, .int x1] μ (fun v m1 => v = none ∧ Sp E MX11_findUnseen [.ref 123] m1 (fun v m2 => v = none ∧ ∀ v3 : Int32, v3 = m2.1 134 0 → ((¬ v3 = 0 → Ex E MX11_foundOf Q 31 [(0, .ref 123), (1, .int x1), (2, .int x2), (3, .int v3), (4, .int 1), (5, .int 0)] [] m2) ∧ (v3 = 0 → Q (some (.int 255)) m2))))) : Ex E MX11_foundOf Q 0 [(0, .ref 123), (1, .int x1), (2, .int x2)] [] μ := by
  refine x_aload_n 0 rfl rfl (dk zX11_foundOf 0 rfl) ?_
  refine x_iconst (v := 0) (by decide) (dk zX11_foundOf 1 rfl) ?_
  refine x_iload_n 1 rfl rfl (dk zX11_foundOf 2 rfl) ?_
  refine x_callV (as := [.int 0, .int x1]) (o := 123) (ci := 11) (st := []) rfl okRX11_196 npX11_findPaper ⟨Nat.le_of_ble_eq_true rfl, Nat.le_of_ble_eq_true rfl⟩ k123 (by decide) rfl (Nat.le_of_ble_eq_true rfl) (dk zX11_foundOf 3 rfl) ?_
  refine h.mono ?_
  rintro _ m1 ⟨rfl, hm1⟩
  show Ex E MX11_foundOf Q 6 [(0, .ref 123), (1, .int x1), (2, .int x2)] [] m1
  refine x_aload_n 0 rfl rfl (dk zX11_foundOf 4 rfl) ?_
  refine x_callV (as := []) (o := 123) (ci := 11) (st := []) rfl okRX11_226 npX11_findUnseen ⟨Nat.le_of_ble_eq_true rfl, Nat.le_of_ble_eq_true rfl⟩ k123 (by decide) rfl (Nat.le_of_ble_eq_true rfl) (dk zX11_foundOf 5 rfl) ?_
  refine hm1.mono ?_
  rintro _ m2 ⟨rfl, hm2⟩
  show Ex E MX11_foundOf Q 10 [(0, .ref 123), (1, .int x1), (2, .int x2)] [] m2
  refine x_aload_n 0 rfl rfl (dk zX11_foundOf 6 rfl) ?_
  refine gf11_15 (r := 134) rfl k123 r123_15 (dk zX11_foundOf 7 rfl) ?_
  refine x_iconst (v := 0) (by decide) (dk zX11_foundOf 8 rfl) ?_
  refine y_iald (j := 0) k134 l134 (by unfold vp_in; decide) (by decide) (dk zX11_foundOf 9 rfl) ?_
  refine x_topi (fun v3 ev3 => ?_)
  have hv3 := hm2 v3 ev3
  refine x_istore_n (k := 3) (l' := [(0, .ref 123), (1, .int x1), (2, .int x2), (3, .int v3)]) [1, 2, 3, 0] rfl rfl (by decide) (dk zX11_foundOf 10 rfl) ?_
  refine x_iload_n 3 rfl rfl (dk zX11_foundOf 11 rfl) ?_
  refine x_if_ne (tgt := 25) (by decide) (dk zX11_foundOf 12 rfl) (fun c4 => ?_) (fun c4 => ?_)
  · have hc4t := hv3.1 c4
    refine x_iconst (v := 1) (by decide) (dk zX11_foundOf 15 rfl) ?_
    refine x_istoreG (l' := [(0, .ref 123), (1, .int x1), (2, .int x2), (3, .int v3), (4, .int 1)]) [1, 2, 3, 4, 0] rfl (by decide) (dk zX11_foundOf 16 rfl) ?_
    refine x_iconst (v := 0) (by decide) (dk zX11_foundOf 17 rfl) ?_
    refine x_istoreG (l' := [(0, .ref 123), (1, .int x1), (2, .int x2), (3, .int v3), (4, .int 1), (5, .int 0)]) [1, 2, 3, 4, 5, 0] rfl (by decide) (dk zX11_foundOf 18 rfl) ?_
    exact hc4t
  · have hc4f := hv3.2 c4
    refine x_sipush (v := 255) (by decide) (dk zX11_foundOf 13 rfl) ?_
    exact x_iret (ty := .int) rfl rfl (dk zX11_foundOf 14 rfl) hc4f
set_option maxRecDepth 20000 in
set_option maxHeartbeats 2000000 in
theorem gX11_foundOf_31 {E : EV} {Q : Po} {μ : Mem} {x1 : Int32} {x2 : Int32} {x3 : Int32} {x4 : Int32} {x5 : Int32} (h : ((x3 ≤ x5 → ((¬ x2 = 0 → vp_in (x3 - 1) 120 ∧ (Sp E MX11_end [.ref 123, .int (μ.1 133 ((x3 - 1).toNatClampNeg))] μ (fun v m4 => ∃ r5 : Int32, v = some (.int r5) ∧ Ex E MX11_foundOf Q 152 [(0, .ref 123), (1, .int x1), (2, .int x2), (3, .int x3), (4, .int x4), (5, .int r5), (6, .int 0), (7, .int 0)] [] m4))) ∧ (x2 = 0 → Sp E MX11_start [.ref 123, .int (μ.1 133 0)] μ (fun v m6 => ∃ r7 : Int32, v = some (.int r7) ∧ Ex E MX11_foundOf Q 152 [(0, .ref 123), (1, .int x1), (2, .int x2), (3, .int x3), (4, .int x4), (5, .int r7), (6, .int 0), (7, .int 0)] [] m6)))) ∧ (¬ x3 ≤ x5 → ((x4 = 0 → ∀ v9 : Int32, v9 = x5 + 1 → Ex E MX11_foundOf Q 31 [(0, .ref 123), (1, .int x1), (2, .int x2), (3, .int x3), (4, .int 0), (5, .int v9)] [] μ) ∧ (¬ x4 = 0 → vp_in x5 120 ∧ (Sp E MX11_isShut [.ref 123, .int ((μ.1 133 x5.toNatClampNeg) / 2)] μ (fun v m11 => ∃ r12 : Int32, v = some (.int r12) ∧ ((¬ r12 = 0 → ∀ v14 : Int32, v14 = x5 + 1 → Ex E MX11_foundOf Q 31 [(0, .ref 123), (1, .int x1), (2, .int x2), (3, .int x3), (4, .int 0), (5, .int v14)] [] m11) ∧ (r12 = 0 → ((x5 = 0 → ∀ v16 : Int32, v16 = x5 + 1 → Ex E MX11_foundOf Q 31 [(0, .ref 123), (1, .int x1), (2, .int x2), (3, .int x3), (4, .int 1), (5, .int v16)] [] m11) ∧ (¬ x5 = 0 → vp_in (x5 - 1) 120 ∧ (Sp E MX11_end [.ref 123, .int (m11.1 133 ((x5 - 1).toNatClampNeg))] m11 (fun v m18 => ∃ r19 : Int32, v = some (.int r19) ∧ Sp E MX11_start [.ref 123, .int (m18.1 133 x5.toNatClampNeg)] m18 (fun v m20 => ∃ r21 : Int32, v = some (.int r21) ∧ vp_in ((8 * r19) + r21) 64 ∧ (((1000 ≤ (m20.1 135 (((8 * r19) + r21).toNatClampNeg)) → ∀ v24 : Int32, v24 = x5 + 1 → Ex E MX11_foundOf Q 31 [(0, .ref 123), (1, .int x1), (2, .int x2), (3, .int x3), (4, .int 0), (5, .int v24)] [] m20) ∧ (¬ 1000 ≤ (m20.1 135 (((8 * r19) + r21).toNatClampNeg)) → ∀ v25 : Int32, v25 = x5 + 1 → Ex E MX11_foundOf Q 31 [(0, .ref 123), (1, .int x1), (2, .int x2), (3, .int x3), (4, .int 1), (5, .int v25)] [] m20))))))))))))))))) : Ex E MX11_foundOf Q 31 [(0, .ref 123), (1, .int x1), (2, .int x2), (3, .int x3), (4, .int x4), (5, .int x5)] [] μ := by
  refine x_iload 5 rfl (dk zX11_foundOf 19 rfl) ?_
  refine x_iload_n 3 rfl rfl (dk zX11_foundOf 20 rfl) ?_
  refine x_icmp_ge (tgt := 115) (by decide) (dk zX11_foundOf 21 rfl) (fun c1 => ?_) (fun c1 => ?_)
  · have hc1t := h.1 c1
    refine x_iload_n 2 rfl rfl (dk zX11_foundOf 63 rfl) ?_
    refine x_if_ne (tgt := 132) (by decide) (dk zX11_foundOf 64 rfl) (fun c2 => ?_) (fun c2 => ?_)
    · have hc2t := hc1t.1 c2
      refine x_aload_n 0 rfl rfl (dk zX11_foundOf 72 rfl) ?_
      refine x_aload_n 0 rfl rfl (dk zX11_foundOf 73 rfl) ?_
      refine gf11_14 (r := 133) rfl k123 r123_14 (dk zX11_foundOf 74 rfl) ?_
      refine x_iload_n 3 rfl rfl (dk zX11_foundOf 75 rfl) ?_
      refine x_iconst (v := 1) (by decide) (dk zX11_foundOf 76 rfl) ?_
      refine x_isub (dk zX11_foundOf 77 rfl) ?_
      have b3 := hc2t.1
      have hb3 := hc2t.2
      refine y_iald (j := (x3 - 1).toNatClampNeg) k133 l133 b3 rfl (dk zX11_foundOf 78 rfl) ?_
      refine x_callV (as := [.int (μ.1 133 ((x3 - 1).toNatClampNeg))]) (o := 123) (ci := 11) (st := []) rfl okRX11_202 npX11_end ⟨Nat.le_of_ble_eq_true rfl, Nat.le_of_ble_eq_true rfl⟩ k123 (by decide) rfl (Nat.le_of_ble_eq_true rfl) (dk zX11_foundOf 79 rfl) ?_
      refine hb3.mono ?_
      rintro _ m4 ⟨r5, rfl, hm4⟩
      show Ex E MX11_foundOf Q 144 [(0, .ref 123), (1, .int x1), (2, .int x2), (3, .int x3), (4, .int x4), (5, .int x5)] [.int r5] m4
      refine x_istoreG (l' := [(0, .ref 123), (1, .int x1), (2, .int x2), (3, .int x3), (4, .int x4), (5, .int r5)]) [1, 2, 3, 4, 5, 0] rfl (by decide) (dk zX11_foundOf 80 rfl) ?_
      refine x_iconst (v := 0) (by decide) (dk zX11_foundOf 81 rfl) ?_
      refine x_istoreG (l' := [(0, .ref 123), (1, .int x1), (2, .int x2), (3, .int x3), (4, .int x4), (5, .int r5), (6, .int 0)]) [1, 2, 3, 4, 5, 6, 0] rfl (by decide) (dk zX11_foundOf 82 rfl) ?_
      refine x_iconst (v := 0) (by decide) (dk zX11_foundOf 83 rfl) ?_
      refine x_istoreG (l' := [(0, .ref 123), (1, .int x1), (2, .int x2), (3, .int x3), (4, .int x4), (5, .int r5), (6, .int 0), (7, .int 0)]) [1, 2, 3, 4, 5, 6, 7, 0] rfl (by decide) (dk zX11_foundOf 84 rfl) ?_
      exact hm4
    · have hc2f := hc1t.2 c2
      refine x_aload_n 0 rfl rfl (dk zX11_foundOf 65 rfl) ?_
      refine x_aload_n 0 rfl rfl (dk zX11_foundOf 66 rfl) ?_
      refine gf11_14 (r := 133) rfl k123 r123_14 (dk zX11_foundOf 67 rfl) ?_
      refine x_iconst (v := 0) (by decide) (dk zX11_foundOf 68 rfl) ?_
      refine y_iald (j := 0) k133 l133 (by unfold vp_in; decide) (by decide) (dk zX11_foundOf 69 rfl) ?_
      refine x_callV (as := [.int (μ.1 133 0)]) (o := 123) (ci := 11) (st := []) rfl okRX11_166 npX11_start ⟨Nat.le_of_ble_eq_true rfl, Nat.le_of_ble_eq_true rfl⟩ k123 (by decide) rfl (Nat.le_of_ble_eq_true rfl) (dk zX11_foundOf 70 rfl) ?_
      refine hc2f.mono ?_
      rintro _ m6 ⟨r7, rfl, hm6⟩
      show Ex E MX11_foundOf Q 129 [(0, .ref 123), (1, .int x1), (2, .int x2), (3, .int x3), (4, .int x4), (5, .int x5)] [.int r7] m6
      refine x_goto (tgt := 144) (by decide) (dk zX11_foundOf 71 rfl) ?_
      refine x_istoreG (l' := [(0, .ref 123), (1, .int x1), (2, .int x2), (3, .int x3), (4, .int x4), (5, .int r7)]) [1, 2, 3, 4, 5, 0] rfl (by decide) (dk zX11_foundOf 80 rfl) ?_
      refine x_iconst (v := 0) (by decide) (dk zX11_foundOf 81 rfl) ?_
      refine x_istoreG (l' := [(0, .ref 123), (1, .int x1), (2, .int x2), (3, .int x3), (4, .int x4), (5, .int r7), (6, .int 0)]) [1, 2, 3, 4, 5, 6, 0] rfl (by decide) (dk zX11_foundOf 82 rfl) ?_
      refine x_iconst (v := 0) (by decide) (dk zX11_foundOf 83 rfl) ?_
      refine x_istoreG (l' := [(0, .ref 123), (1, .int x1), (2, .int x2), (3, .int x3), (4, .int x4), (5, .int r7), (6, .int 0), (7, .int 0)]) [1, 2, 3, 4, 5, 6, 7, 0] rfl (by decide) (dk zX11_foundOf 84 rfl) ?_
      exact hm6
  · have hc1f := h.2 c1
    refine x_iload 4 rfl (dk zX11_foundOf 22 rfl) ?_
    refine x_if_eq (tgt := 106) (by decide) (dk zX11_foundOf 23 rfl) (fun c8 => ?_) (fun c8 => ?_)
    · have hc8t := hc1f.1 c8
      refine x_iconst (v := 0) (by decide) (dk zX11_foundOf 59 rfl) ?_
      refine x_istoreG (l' := [(0, .ref 123), (1, .int x1), (2, .int x2), (3, .int x3), (4, .int 0), (5, .int x5)]) [1, 2, 3, 4, 0, 5] rfl (by decide) (dk zX11_foundOf 60 rfl) ?_
      obtain ⟨v9, ev9⟩ : ∃ y : Int32, y = x5 + 1 := ⟨_, rfl⟩
      have hv9 := hc8t v9 ev9
      refine x_iinc (v := v9) (l' := [(0, .ref 123), (1, .int x1), (2, .int x2), (3, .int x3), (4, .int 0), (5, .int v9)]) 5 rfl (by rw [ev9]; rfl) [1, 2, 3, 4, 5, 0] rfl (by decide) (dk zX11_foundOf 61 rfl) ?_
      refine x_goto (tgt := 31) (by decide) (dk zX11_foundOf 62 rfl) ?_
      exact hv9
    · have hc8f := hc1f.2 c8
      refine x_aload_n 0 rfl rfl (dk zX11_foundOf 24 rfl) ?_
      refine x_aload_n 0 rfl rfl (dk zX11_foundOf 25 rfl) ?_
      refine gf11_14 (r := 133) rfl k123 r123_14 (dk zX11_foundOf 26 rfl) ?_
      refine x_iload 5 rfl (dk zX11_foundOf 27 rfl) ?_
      have b10 := hc8f.1
      have hb10 := hc8f.2
      refine y_iald (j := x5.toNatClampNeg) k133 l133 b10 rfl (dk zX11_foundOf 28 rfl) ?_
      refine x_iconst (v := 2) (by decide) (dk zX11_foundOf 29 rfl) ?_
      refine x_idiv (by decide) (dk zX11_foundOf 30 rfl) ?_
      refine x_callV (as := [.int ((μ.1 133 x5.toNatClampNeg) / 2)]) (o := 123) (ci := 11) (st := []) rfl okRX11_172 npX11_isShut ⟨Nat.le_of_ble_eq_true rfl, Nat.le_of_ble_eq_true rfl⟩ k123 (by decide) rfl (Nat.le_of_ble_eq_true rfl) (dk zX11_foundOf 31 rfl) ?_
      refine hb10.mono ?_
      rintro _ m11 ⟨r12, rfl, hm11⟩
      show Ex E MX11_foundOf Q 55 [(0, .ref 123), (1, .int x1), (2, .int x2), (3, .int x3), (4, .int x4), (5, .int x5)] [.int r12] m11
      refine x_if_ne (tgt := 106) (by decide) (dk zX11_foundOf 32 rfl) (fun c13 => ?_) (fun c13 => ?_)
      · have hc13t := hm11.1 c13
        refine x_iconst (v := 0) (by decide) (dk zX11_foundOf 59 rfl) ?_
        refine x_istoreG (l' := [(0, .ref 123), (1, .int x1), (2, .int x2), (3, .int x3), (4, .int 0), (5, .int x5)]) [1, 2, 3, 4, 0, 5] rfl (by decide) (dk zX11_foundOf 60 rfl) ?_
        obtain ⟨v14, ev14⟩ : ∃ y : Int32, y = x5 + 1 := ⟨_, rfl⟩
        have hv14 := hc13t v14 ev14
        refine x_iinc (v := v14) (l' := [(0, .ref 123), (1, .int x1), (2, .int x2), (3, .int x3), (4, .int 0), (5, .int v14)]) 5 rfl (by rw [ev14]; rfl) [1, 2, 3, 4, 5, 0] rfl (by decide) (dk zX11_foundOf 61 rfl) ?_
        refine x_goto (tgt := 31) (by decide) (dk zX11_foundOf 62 rfl) ?_
        exact hv14
      · have hc13f := hm11.2 c13
        refine x_iload 5 rfl (dk zX11_foundOf 33 rfl) ?_
        refine x_if_eq (tgt := 102) (by decide) (dk zX11_foundOf 34 rfl) (fun c15 => ?_) (fun c15 => ?_)
        · have hc15t := hc13f.1 c15
          refine x_iconst (v := 1) (by decide) (dk zX11_foundOf 57 rfl) ?_
          refine x_goto (tgt := 107) (by decide) (dk zX11_foundOf 58 rfl) ?_
          refine x_istoreG (l' := [(0, .ref 123), (1, .int x1), (2, .int x2), (3, .int x3), (4, .int 1), (5, .int x5)]) [1, 2, 3, 4, 0, 5] rfl (by decide) (dk zX11_foundOf 60 rfl) ?_
          obtain ⟨v16, ev16⟩ : ∃ y : Int32, y = x5 + 1 := ⟨_, rfl⟩
          have hv16 := hc15t v16 ev16
          refine x_iinc (v := v16) (l' := [(0, .ref 123), (1, .int x1), (2, .int x2), (3, .int x3), (4, .int 1), (5, .int v16)]) 5 rfl (by rw [ev16]; rfl) [1, 2, 3, 4, 5, 0] rfl (by decide) (dk zX11_foundOf 61 rfl) ?_
          refine x_goto (tgt := 31) (by decide) (dk zX11_foundOf 62 rfl) ?_
          exact hv16
        · have hc15f := hc13f.2 c15
          refine x_aload_n 0 rfl rfl (dk zX11_foundOf 35 rfl) ?_
          refine gf11_17 (r := 135) rfl k123 r123_17 (dk zX11_foundOf 36 rfl) ?_
          refine x_bipush (v := 8) (by decide) (dk zX11_foundOf 37 rfl) ?_
          refine x_aload_n 0 rfl rfl (dk zX11_foundOf 38 rfl) ?_
          refine x_aload_n 0 rfl rfl (dk zX11_foundOf 39 rfl) ?_
          refine gf11_14 (r := 133) rfl k123 r123_14 (dk zX11_foundOf 40 rfl) ?_
          refine x_iload 5 rfl (dk zX11_foundOf 41 rfl) ?_
          refine x_iconst (v := 1) (by decide) (dk zX11_foundOf 42 rfl) ?_
          refine x_isub (dk zX11_foundOf 43 rfl) ?_
          have b17 := hc15f.1
          have hb17 := hc15f.2
          refine y_iald (j := (x5 - 1).toNatClampNeg) k133 l133 b17 rfl (dk zX11_foundOf 44 rfl) ?_
          refine x_callV (as := [.int (m11.1 133 ((x5 - 1).toNatClampNeg))]) (o := 123) (ci := 11) (st := [.int 8, .ref 135]) rfl okRX11_202 npX11_end ⟨Nat.le_of_ble_eq_true rfl, Nat.le_of_ble_eq_true rfl⟩ k123 (by decide) rfl (Nat.le_of_ble_eq_true rfl) (dk zX11_foundOf 45 rfl) ?_
          refine hb17.mono ?_
          rintro _ m18 ⟨r19, rfl, hm18⟩
          show Ex E MX11_foundOf Q 82 [(0, .ref 123), (1, .int x1), (2, .int x2), (3, .int x3), (4, .int x4), (5, .int x5)] [.int r19, .int 8, .ref 135] m18
          refine x_imul (dk zX11_foundOf 46 rfl) ?_
          refine x_aload_n 0 rfl rfl (dk zX11_foundOf 47 rfl) ?_
          refine x_aload_n 0 rfl rfl (dk zX11_foundOf 48 rfl) ?_
          refine gf11_14 (r := 133) rfl k123 r123_14 (dk zX11_foundOf 49 rfl) ?_
          refine x_iload 5 rfl (dk zX11_foundOf 50 rfl) ?_
          refine y_iald (j := x5.toNatClampNeg) k133 l133 b10 rfl (dk zX11_foundOf 51 rfl) ?_
          refine x_callV (as := [.int (m18.1 133 x5.toNatClampNeg)]) (o := 123) (ci := 11) (st := [.int (8 * r19), .ref 135]) rfl okRX11_166 npX11_start ⟨Nat.le_of_ble_eq_true rfl, Nat.le_of_ble_eq_true rfl⟩ k123 (by decide) rfl (Nat.le_of_ble_eq_true rfl) (dk zX11_foundOf 52 rfl) ?_
          refine hm18.mono ?_
          rintro _ m20 ⟨r21, rfl, hm20⟩
          show Ex E MX11_foundOf Q 94 [(0, .ref 123), (1, .int x1), (2, .int x2), (3, .int x3), (4, .int x4), (5, .int x5)] [.int r21, .int (8 * r19), .ref 135] m20
          refine x_iadd (dk zX11_foundOf 53 rfl) ?_
          have b22 := hm20.1
          have hb22 := hm20.2
          refine y_iald (j := ((8 * r19) + r21).toNatClampNeg) k135 l135 b22 rfl (dk zX11_foundOf 54 rfl) ?_
          refine x_sipush (v := 1000) (by decide) (dk zX11_foundOf 55 rfl) ?_
          refine x_icmp_ge (tgt := 106) (by decide) (dk zX11_foundOf 56 rfl) (fun c23 => ?_) (fun c23 => ?_)
          · have hc23t := hb22.1 c23
            refine x_iconst (v := 0) (by decide) (dk zX11_foundOf 59 rfl) ?_
            refine x_istoreG (l' := [(0, .ref 123), (1, .int x1), (2, .int x2), (3, .int x3), (4, .int 0), (5, .int x5)]) [1, 2, 3, 4, 0, 5] rfl (by decide) (dk zX11_foundOf 60 rfl) ?_
            obtain ⟨v24, ev24⟩ : ∃ y : Int32, y = x5 + 1 := ⟨_, rfl⟩
            have hv24 := hc23t v24 ev24
            refine x_iinc (v := v24) (l' := [(0, .ref 123), (1, .int x1), (2, .int x2), (3, .int x3), (4, .int 0), (5, .int v24)]) 5 rfl (by rw [ev24]; rfl) [1, 2, 3, 4, 5, 0] rfl (by decide) (dk zX11_foundOf 61 rfl) ?_
            refine x_goto (tgt := 31) (by decide) (dk zX11_foundOf 62 rfl) ?_
            exact hv24
          · have hc23f := hb22.2 c23
            refine x_iconst (v := 1) (by decide) (dk zX11_foundOf 57 rfl) ?_
            refine x_goto (tgt := 107) (by decide) (dk zX11_foundOf 58 rfl) ?_
            refine x_istoreG (l' := [(0, .ref 123), (1, .int x1), (2, .int x2), (3, .int x3), (4, .int 1), (5, .int x5)]) [1, 2, 3, 4, 0, 5] rfl (by decide) (dk zX11_foundOf 60 rfl) ?_
            obtain ⟨v25, ev25⟩ : ∃ y : Int32, y = x5 + 1 := ⟨_, rfl⟩
            have hv25 := hc23f v25 ev25
            refine x_iinc (v := v25) (l' := [(0, .ref 123), (1, .int x1), (2, .int x2), (3, .int x3), (4, .int 1), (5, .int v25)]) 5 rfl (by rw [ev25]; rfl) [1, 2, 3, 4, 5, 0] rfl (by decide) (dk zX11_foundOf 61 rfl) ?_
            refine x_goto (tgt := 31) (by decide) (dk zX11_foundOf 62 rfl) ?_
            exact hv25
set_option maxRecDepth 20000 in
set_option maxHeartbeats 2000000 in
theorem gX11_foundOf_152 {E : EV} {Q : Po} {μ : Mem} {x1 : Int32} {x2 : Int32} {x3 : Int32} {x4 : Int32} {x5 : Int32} {x6 : Int32} {x7 : Int32} (h : ((8 ≤ x7 → Q (some (.int x6)) μ) ∧ (¬ 8 ≤ x7 → ((x4 = 0 → ∀ v3 : Int32, v3 = x6 ||| 0 → ∀ v4 : Int32, v4 = x7 + 1 → Ex E MX11_foundOf Q 152 [(0, .ref 123), (1, .int x1), (2, .int x2), (3, .int x3), (4, .int x4), (5, .int x5), (6, .int v3), (7, .int v4)] [] μ) ∧ (¬ x4 = 0 → vp_in ((8 * x5) + x7) 64 ∧ (((1000 ≤ (μ.1 135 (((8 * x5) + x7).toNatClampNeg)) → ∀ v7 : Int32, v7 = x6 ||| 0 → ∀ v8 : Int32, v8 = x7 + 1 → Ex E MX11_foundOf Q 152 [(0, .ref 123), (1, .int x1), (2, .int x2), (3, .int x3), (4, .int x4), (5, .int x5), (6, .int v7), (7, .int v8)] [] μ) ∧ (¬ 1000 ≤ (μ.1 135 (((8 * x5) + x7).toNatClampNeg)) → ∀ v9 : Int32, v9 = x6 ||| (1 <<< ((x7 : Int32) &&& 31)) → ∀ v10 : Int32, v10 = x7 + 1 → Ex E MX11_foundOf Q 152 [(0, .ref 123), (1, .int x1), (2, .int x2), (3, .int x3), (4, .int x4), (5, .int x5), (6, .int v9), (7, .int v10)] [] μ)))))))) : Ex E MX11_foundOf Q 152 [(0, .ref 123), (1, .int x1), (2, .int x2), (3, .int x3), (4, .int x4), (5, .int x5), (6, .int x6), (7, .int x7)] [] μ := by
  refine x_iload 7 rfl (dk zX11_foundOf 85 rfl) ?_
  refine x_bipush (v := 8) (by decide) (dk zX11_foundOf 86 rfl) ?_
  refine x_icmp_ge (tgt := 202) (by decide) (dk zX11_foundOf 87 rfl) (fun c1 => ?_) (fun c1 => ?_)
  · have hc1t := h.1 c1
    refine x_iload 6 rfl (dk zX11_foundOf 110 rfl) ?_
    exact x_iret (ty := .int) rfl rfl (dk zX11_foundOf 111 rfl) hc1t
  · have hc1f := h.2 c1
    refine x_iload 6 rfl (dk zX11_foundOf 88 rfl) ?_
    refine x_iload 4 rfl (dk zX11_foundOf 89 rfl) ?_
    refine x_if_eq (tgt := 192) (by decide) (dk zX11_foundOf 90 rfl) (fun c2 => ?_) (fun c2 => ?_)
    · have hc2t := hc1f.1 c2
      refine x_iconst (v := 0) (by decide) (dk zX11_foundOf 105 rfl) ?_
      refine x_ior (dk zX11_foundOf 106 rfl) ?_
      refine x_topi (fun v3 ev3 => ?_)
      have hv3 := hc2t v3 ev3
      refine x_istoreG (l' := [(0, .ref 123), (1, .int x1), (2, .int x2), (3, .int x3), (4, .int x4), (5, .int x5), (6, .int v3), (7, .int x7)]) [1, 2, 3, 4, 5, 6, 0, 7] rfl (by decide) (dk zX11_foundOf 107 rfl) ?_
      obtain ⟨v4, ev4⟩ : ∃ y : Int32, y = x7 + 1 := ⟨_, rfl⟩
      have hv4 := hv3 v4 ev4
      refine x_iinc (v := v4) (l' := [(0, .ref 123), (1, .int x1), (2, .int x2), (3, .int x3), (4, .int x4), (5, .int x5), (6, .int v3), (7, .int v4)]) 7 rfl (by rw [ev4]; rfl) [1, 2, 3, 4, 5, 6, 7, 0] rfl (by decide) (dk zX11_foundOf 108 rfl) ?_
      refine x_goto (tgt := 152) (by decide) (dk zX11_foundOf 109 rfl) ?_
      exact hv4
    · have hc2f := hc1f.2 c2
      refine x_aload_n 0 rfl rfl (dk zX11_foundOf 91 rfl) ?_
      refine gf11_17 (r := 135) rfl k123 r123_17 (dk zX11_foundOf 92 rfl) ?_
      refine x_bipush (v := 8) (by decide) (dk zX11_foundOf 93 rfl) ?_
      refine x_iload 5 rfl (dk zX11_foundOf 94 rfl) ?_
      refine x_imul (dk zX11_foundOf 95 rfl) ?_
      refine x_iload 7 rfl (dk zX11_foundOf 96 rfl) ?_
      refine x_iadd (dk zX11_foundOf 97 rfl) ?_
      have b5 := hc2f.1
      have hb5 := hc2f.2
      refine y_iald (j := ((8 * x5) + x7).toNatClampNeg) k135 l135 b5 rfl (dk zX11_foundOf 98 rfl) ?_
      refine x_sipush (v := 1000) (by decide) (dk zX11_foundOf 99 rfl) ?_
      refine x_icmp_ge (tgt := 192) (by decide) (dk zX11_foundOf 100 rfl) (fun c6 => ?_) (fun c6 => ?_)
      · have hc6t := hb5.1 c6
        refine x_iconst (v := 0) (by decide) (dk zX11_foundOf 105 rfl) ?_
        refine x_ior (dk zX11_foundOf 106 rfl) ?_
        refine x_topi (fun v7 ev7 => ?_)
        have hv7 := hc6t v7 ev7
        refine x_istoreG (l' := [(0, .ref 123), (1, .int x1), (2, .int x2), (3, .int x3), (4, .int x4), (5, .int x5), (6, .int v7), (7, .int x7)]) [1, 2, 3, 4, 5, 6, 0, 7] rfl (by decide) (dk zX11_foundOf 107 rfl) ?_
        obtain ⟨v8, ev8⟩ : ∃ y : Int32, y = x7 + 1 := ⟨_, rfl⟩
        have hv8 := hv7 v8 ev8
        refine x_iinc (v := v8) (l' := [(0, .ref 123), (1, .int x1), (2, .int x2), (3, .int x3), (4, .int x4), (5, .int x5), (6, .int v7), (7, .int v8)]) 7 rfl (by rw [ev8]; rfl) [1, 2, 3, 4, 5, 6, 7, 0] rfl (by decide) (dk zX11_foundOf 108 rfl) ?_
        refine x_goto (tgt := 152) (by decide) (dk zX11_foundOf 109 rfl) ?_
        exact hv8
      · have hc6f := hb5.2 c6
        refine x_iconst (v := 1) (by decide) (dk zX11_foundOf 101 rfl) ?_
        refine x_iload 7 rfl (dk zX11_foundOf 102 rfl) ?_
        refine x_ishl (dk zX11_foundOf 103 rfl) ?_
        refine x_goto (tgt := 193) (by decide) (dk zX11_foundOf 104 rfl) ?_
        refine x_ior (dk zX11_foundOf 106 rfl) ?_
        refine x_topi (fun v9 ev9 => ?_)
        have hv9 := hc6f v9 ev9
        refine x_istoreG (l' := [(0, .ref 123), (1, .int x1), (2, .int x2), (3, .int x3), (4, .int x4), (5, .int x5), (6, .int v9), (7, .int x7)]) [1, 2, 3, 4, 5, 6, 0, 7] rfl (by decide) (dk zX11_foundOf 107 rfl) ?_
        obtain ⟨v10, ev10⟩ : ∃ y : Int32, y = x7 + 1 := ⟨_, rfl⟩
        have hv10 := hv9 v10 ev10
        refine x_iinc (v := v10) (l' := [(0, .ref 123), (1, .int x1), (2, .int x2), (3, .int x3), (4, .int x4), (5, .int x5), (6, .int v9), (7, .int v10)]) 7 rfl (by rw [ev10]; rfl) [1, 2, 3, 4, 5, 6, 7, 0] rfl (by decide) (dk zX11_foundOf 108 rfl) ?_
        refine x_goto (tgt := 152) (by decide) (dk zX11_foundOf 109 rfl) ?_
        exact hv10
set_option maxRecDepth 20000 in
set_option maxHeartbeats 2000000 in
theorem gX11_found_0 {E : EV} {Q : Po} {μ : Mem} {x1 : Int32} {x2 : Int32} (h : Sp E MX11_isWay [.int x1] μ (fun v m1 => ∃ r2 : Int32, v = some (.int r2) ∧ ((r2 = 0 → Q (some (.int ((-2)))) m1) ∧ (¬ r2 = 0 → Sp E MX11_isTwo [.int x2] m1 (fun v m4 => ∃ r5 : Int32, v = some (.int r5) ∧ ((r5 = 0 → Q (some (.int ((-2)))) m4) ∧ (¬ r5 = 0 → Sp E MX11_foundOf [.ref 123, .int x1, .int x2] m4 (fun v m7 => ∃ r8 : Int32, v = some (.int r8) ∧ Q (some (.int r8)) m7)))))))) : Ex E MX11_found Q 0 [(0, .ref 123), (1, .int x1), (2, .int x2)] [] μ := by
  refine x_iload_n 1 rfl rfl (dk zX11_found 0 rfl) ?_
  refine x_callS (as := [.int x1]) (st := []) rfl okRX11_193 npX11_isWay ⟨Nat.le_of_ble_eq_true rfl, Nat.le_of_ble_eq_true rfl⟩ (Nat.le_of_ble_eq_true rfl) (dk zX11_found 1 rfl) ?_
  refine h.mono ?_
  rintro _ m1 ⟨r2, rfl, hm1⟩
  show Ex E MX11_found Q 4 [(0, .ref 123), (1, .int x1), (2, .int x2)] [.int r2] m1
  refine x_if_eq (tgt := 23) (by decide) (dk zX11_found 2 rfl) (fun c3 => ?_) (fun c3 => ?_)
  · have hc3t := hm1.1 c3
    refine x_bipush (v := -2) (by decide) (dk zX11_found 11 rfl) ?_
    exact x_iret (ty := .int) rfl rfl (dk zX11_found 12 rfl) hc3t
  · have hc3f := hm1.2 c3
    refine x_iload_n 2 rfl rfl (dk zX11_found 3 rfl) ?_
    refine x_callS (as := [.int x2]) (st := []) rfl okRX11_256 npX11_isTwo ⟨Nat.le_of_ble_eq_true rfl, Nat.le_of_ble_eq_true rfl⟩ (Nat.le_of_ble_eq_true rfl) (dk zX11_found 4 rfl) ?_
    refine hc3f.mono ?_
    rintro _ m4 ⟨r5, rfl, hm4⟩
    show Ex E MX11_found Q 11 [(0, .ref 123), (1, .int x1), (2, .int x2)] [.int r5] m4
    refine x_if_eq (tgt := 23) (by decide) (dk zX11_found 5 rfl) (fun c6 => ?_) (fun c6 => ?_)
    · have hc6t := hm4.1 c6
      refine x_bipush (v := -2) (by decide) (dk zX11_found 11 rfl) ?_
      exact x_iret (ty := .int) rfl rfl (dk zX11_found 12 rfl) hc6t
    · have hc6f := hm4.2 c6
      refine x_aload_n 0 rfl rfl (dk zX11_found 6 rfl) ?_
      refine x_iload_n 1 rfl rfl (dk zX11_found 7 rfl) ?_
      refine x_iload_n 2 rfl rfl (dk zX11_found 8 rfl) ?_
      refine x_callV (as := [.int x1, .int x2]) (o := 123) (ci := 11) (st := []) rfl okRX11_283 npX11_foundOf ⟨Nat.le_of_ble_eq_true rfl, Nat.le_of_ble_eq_true rfl⟩ k123 (by decide) rfl (Nat.le_of_ble_eq_true rfl) (dk zX11_found 9 rfl) ?_
      refine hc6f.mono ?_
      rintro _ m7 ⟨r8, rfl, hm7⟩
      show Ex E MX11_found Q 20 [(0, .ref 123), (1, .int x1), (2, .int x2)] [.int r8] m7
      refine x_goto (tgt := 25) (by decide) (dk zX11_found 10 rfl) ?_
      exact x_iret (ty := .int) rfl rfl (dk zX11_found 12 rfl) hm7
set_option maxRecDepth 20000 in
set_option maxHeartbeats 2000000 in
theorem gX11_index_0 {E : EV} {Q : Po} {μ : Mem} {x0 : Int32} {x1 : Int32} {x2 : Int32} {x3 : Int32} (h : Q (some (.int ((((((x0 * 8) + x1) * 8) + x2) * 13) + x3))) μ) : Ex E MX11_index Q 0 [(0, .int x0), (1, .int x1), (2, .int x2), (3, .int x3)] [] μ := by
  refine x_iload_n 0 rfl rfl (dk zX11_index 0 rfl) ?_
  refine x_bipush (v := 8) (by decide) (dk zX11_index 1 rfl) ?_
  refine x_imul (dk zX11_index 2 rfl) ?_
  refine x_iload_n 1 rfl rfl (dk zX11_index 3 rfl) ?_
  refine x_iadd (dk zX11_index 4 rfl) ?_
  refine x_bipush (v := 8) (by decide) (dk zX11_index 5 rfl) ?_
  refine x_imul (dk zX11_index 6 rfl) ?_
  refine x_iload_n 2 rfl rfl (dk zX11_index 7 rfl) ?_
  refine x_iadd (dk zX11_index 8 rfl) ?_
  refine x_bipush (v := 13) (by decide) (dk zX11_index 9 rfl) ?_
  refine x_imul (dk zX11_index 10 rfl) ?_
  refine x_iload_n 3 rfl rfl (dk zX11_index 11 rfl) ?_
  refine x_iadd (dk zX11_index 12 rfl) ?_
  exact x_iret (ty := .int) rfl rfl (dk zX11_index 13 rfl) h
set_option maxRecDepth 20000 in
set_option maxHeartbeats 2000000 in
theorem gX11_closedBy_0 {E : EV} {Q : Po} {μ : Mem} {x1 : Int32} {x2 : Int32} {x3 : Int32} {x4 : Int32} {x5 : Int32} (h : vp_in (x1 / 2) 9 ∧ (((¬ (μ.1 132 ((x1 / 2).toNatClampNeg)) = 0 → Ex E MX11_closedBy Q 38 [(0, .ref 123), (1, .int x1), (2, .int x2), (3, .int x3), (4, .int x4), (5, .int x5), (6, .long 0), (8, .int 0)] [] μ) ∧ ((μ.1 132 ((x1 / 2).toNatClampNeg)) = 0 → Sp E MX11_end [.ref 123, .int x1] μ (fun v m3 => ∃ r4 : Int32, v = some (.int r4) ∧ Sp E MX11_index [.int x2, .int r4, .int x4, .int (x5 - 1)] m3 (fun v m5 => ∃ r6 : Int32, v = some (.int r6) ∧ vp_in r6 15808 ∧ (Q (some (.long (m5.2 139 r6.toNatClampNeg))) m5))))))) : Ex E MX11_closedBy Q 0 [(0, .ref 123), (1, .int x1), (2, .int x2), (3, .int x3), (4, .int x4), (5, .int x5)] [] μ := by
  refine x_aload_n 0 rfl rfl (dk zX11_closedBy 0 rfl) ?_
  refine gf11_11 (r := 132) rfl k123 r123_11 (dk zX11_closedBy 1 rfl) ?_
  refine x_iload_n 1 rfl rfl (dk zX11_closedBy 2 rfl) ?_
  refine x_iconst (v := 2) (by decide) (dk zX11_closedBy 3 rfl) ?_
  refine x_idiv (by decide) (dk zX11_closedBy 4 rfl) ?_
  have b1 := h.1
  have hb1 := h.2
  refine y_zald (j := (x1 / 2).toNatClampNeg) k132 l132 b1 rfl (dk zX11_closedBy 5 rfl) ?_
  refine x_if_ne (tgt := 32) (by decide) (dk zX11_closedBy 6 rfl) (fun c2 => ?_) (fun c2 => ?_)
  · have hc2t := hb1.1 c2
    refine x_lconst (v := 0) (by decide) (dk zX11_closedBy 20 rfl) ?_
    refine x_lstoreG (l' := [(0, .ref 123), (1, .int x1), (2, .int x2), (3, .int x3), (4, .int x4), (5, .int x5), (6, .long 0)]) [1, 2, 3, 4, 5, 6, 0] rfl (by decide) (dk zX11_closedBy 21 rfl) ?_
    refine x_iconst (v := 0) (by decide) (dk zX11_closedBy 22 rfl) ?_
    refine x_istoreG (l' := [(0, .ref 123), (1, .int x1), (2, .int x2), (3, .int x3), (4, .int x4), (5, .int x5), (6, .long 0), (8, .int 0)]) [1, 2, 3, 4, 5, 6, 7, 0] rfl (by decide) (dk zX11_closedBy 23 rfl) ?_
    exact hc2t
  · have hc2f := hb1.2 c2
    refine x_aload_n 0 rfl rfl (dk zX11_closedBy 7 rfl) ?_
    refine gf11_25 (r := 139) rfl k123 r123_25 (dk zX11_closedBy 8 rfl) ?_
    refine x_iload_n 2 rfl rfl (dk zX11_closedBy 9 rfl) ?_
    refine x_aload_n 0 rfl rfl (dk zX11_closedBy 10 rfl) ?_
    refine x_iload_n 1 rfl rfl (dk zX11_closedBy 11 rfl) ?_
    refine x_callV (as := [.int x1]) (o := 123) (ci := 11) (st := [.int x2, .ref 139]) rfl okRX11_202 npX11_end ⟨Nat.le_of_ble_eq_true rfl, Nat.le_of_ble_eq_true rfl⟩ k123 (by decide) rfl (Nat.le_of_ble_eq_true rfl) (dk zX11_closedBy 12 rfl) ?_
    refine hc2f.mono ?_
    rintro _ m3 ⟨r4, rfl, hm3⟩
    show Ex E MX11_closedBy Q 21 [(0, .ref 123), (1, .int x1), (2, .int x2), (3, .int x3), (4, .int x4), (5, .int x5)] [.int r4, .int x2, .ref 139] m3
    refine x_iload 4 rfl (dk zX11_closedBy 13 rfl) ?_
    refine x_iload 5 rfl (dk zX11_closedBy 14 rfl) ?_
    refine x_iconst (v := 1) (by decide) (dk zX11_closedBy 15 rfl) ?_
    refine x_isub (dk zX11_closedBy 16 rfl) ?_
    refine x_callS (as := [.int x2, .int r4, .int x4, .int (x5 - 1)]) (st := [.ref 139]) rfl okRX11_289 npX11_index ⟨Nat.le_of_ble_eq_true rfl, Nat.le_of_ble_eq_true rfl⟩ (Nat.le_of_ble_eq_true rfl) (dk zX11_closedBy 17 rfl) ?_
    refine hm3.mono ?_
    rintro _ m5 ⟨r6, rfl, hm5⟩
    show Ex E MX11_closedBy Q 30 [(0, .ref 123), (1, .int x1), (2, .int x2), (3, .int x3), (4, .int x4), (5, .int x5)] [.int r6, .ref 139] m5
    have b7 := hm5.1
    have hb7 := hm5.2
    refine y_lald (j := r6.toNatClampNeg) k139 l139 b7 rfl (dk zX11_closedBy 18 rfl) ?_
    exact x_lret rfl (dk zX11_closedBy 19 rfl) hb7
set_option maxRecDepth 20000 in
set_option maxHeartbeats 2000000 in
theorem gX11_closedBy_38 {E : EV} {Q : Po} {μ : Mem} {x1 : Int32} {x2 : Int32} {x3 : Int32} {x4 : Int32} {x5 : Int32} {x6 : Int64} {x8 : Int32} (h : ((x5 < (x8 + 2) → Q (some (.long x6)) μ) ∧ (¬ x5 < (x8 + 2) → Sp E MX11_back [.int x1] μ (fun v m2 => ∃ r3 : Int32, v = some (.int r3) ∧ Sp E MX11_end [.ref 123, .int x1] m2 (fun v m4 => ∃ r5 : Int32, v = some (.int r5) ∧ Sp E MX11_end [.ref 123, .int x1] m4 (fun v m6 => ∃ r7 : Int32, v = some (.int r7) ∧ Sp E MX11_index [.int r3, .int r5, .int r7, .int x8] m6 (fun v m8 => ∃ r9 : Int32, v = some (.int r9) ∧ vp_in r9 15808 ∧ (Sp E MX11_index [.int x2, .int x3, .int x4, .int ((x5 - 2) - x8)] m8 (fun v m11 => ∃ r12 : Int32, v = some (.int r12) ∧ vp_in r12 15808 ∧ (∀ v14 : Int64, v14 = x6 + ((m8.2 139 r9.toNatClampNeg) * (m11.2 139 r12.toNatClampNeg)) → ∀ v15 : Int32, v15 = x8 + 1 → Ex E MX11_closedBy Q 38 [(0, .ref 123), (1, .int x1), (2, .int x2), (3, .int x3), (4, .int x4), (5, .int x5), (6, .long v14), (8, .int v15)] [] m11)))))))))) : Ex E MX11_closedBy Q 38 [(0, .ref 123), (1, .int x1), (2, .int x2), (3, .int x3), (4, .int x4), (5, .int x5), (6, .long x6), (8, .int x8)] [] μ := by
  refine x_iload 7 rfl (dk zX11_closedBy 24 rfl) ?_
  refine x_iconst (v := 2) (by decide) (dk zX11_closedBy 25 rfl) ?_
  refine x_iadd (dk zX11_closedBy 26 rfl) ?_
  refine x_iload 5 rfl (dk zX11_closedBy 27 rfl) ?_
  refine x_icmp_gt (tgt := 102) (by decide) (dk zX11_closedBy 28 rfl) (fun c1 => ?_) (fun c1 => ?_)
  · have hc1t := h.1 c1
    refine x_lload 6 rfl (dk zX11_closedBy 60 rfl) ?_
    exact x_lret rfl (dk zX11_closedBy 61 rfl) hc1t
  · have hc1f := h.2 c1
    refine x_lload 6 rfl (dk zX11_closedBy 29 rfl) ?_
    refine x_aload_n 0 rfl rfl (dk zX11_closedBy 30 rfl) ?_
    refine gf11_25 (r := 139) rfl k123 r123_25 (dk zX11_closedBy 31 rfl) ?_
    refine x_iload_n 1 rfl rfl (dk zX11_closedBy 32 rfl) ?_
    refine x_callS (as := [.int x1]) (st := [.ref 139, .long x6]) rfl okRX11_177 npX11_back ⟨Nat.le_of_ble_eq_true rfl, Nat.le_of_ble_eq_true rfl⟩ (Nat.le_of_ble_eq_true rfl) (dk zX11_closedBy 33 rfl) ?_
    refine hc1f.mono ?_
    rintro _ m2 ⟨r3, rfl, hm2⟩
    show Ex E MX11_closedBy Q 57 [(0, .ref 123), (1, .int x1), (2, .int x2), (3, .int x3), (4, .int x4), (5, .int x5), (6, .long x6), (8, .int x8)] [.int r3, .ref 139, .long x6] m2
    refine x_aload_n 0 rfl rfl (dk zX11_closedBy 34 rfl) ?_
    refine x_iload_n 1 rfl rfl (dk zX11_closedBy 35 rfl) ?_
    refine x_callV (as := [.int x1]) (o := 123) (ci := 11) (st := [.int r3, .ref 139, .long x6]) rfl okRX11_202 npX11_end ⟨Nat.le_of_ble_eq_true rfl, Nat.le_of_ble_eq_true rfl⟩ k123 (by decide) rfl (Nat.le_of_ble_eq_true rfl) (dk zX11_closedBy 36 rfl) ?_
    refine hm2.mono ?_
    rintro _ m4 ⟨r5, rfl, hm4⟩
    show Ex E MX11_closedBy Q 62 [(0, .ref 123), (1, .int x1), (2, .int x2), (3, .int x3), (4, .int x4), (5, .int x5), (6, .long x6), (8, .int x8)] [.int r5, .int r3, .ref 139, .long x6] m4
    refine x_aload_n 0 rfl rfl (dk zX11_closedBy 37 rfl) ?_
    refine x_iload_n 1 rfl rfl (dk zX11_closedBy 38 rfl) ?_
    refine x_callV (as := [.int x1]) (o := 123) (ci := 11) (st := [.int r5, .int r3, .ref 139, .long x6]) rfl okRX11_202 npX11_end ⟨Nat.le_of_ble_eq_true rfl, Nat.le_of_ble_eq_true rfl⟩ k123 (by decide) rfl (Nat.le_of_ble_eq_true rfl) (dk zX11_closedBy 39 rfl) ?_
    refine hm4.mono ?_
    rintro _ m6 ⟨r7, rfl, hm6⟩
    show Ex E MX11_closedBy Q 67 [(0, .ref 123), (1, .int x1), (2, .int x2), (3, .int x3), (4, .int x4), (5, .int x5), (6, .long x6), (8, .int x8)] [.int r7, .int r5, .int r3, .ref 139, .long x6] m6
    refine x_iload 7 rfl (dk zX11_closedBy 40 rfl) ?_
    refine x_callS (as := [.int r3, .int r5, .int r7, .int x8]) (st := [.ref 139, .long x6]) rfl okRX11_289 npX11_index ⟨Nat.le_of_ble_eq_true rfl, Nat.le_of_ble_eq_true rfl⟩ (Nat.le_of_ble_eq_true rfl) (dk zX11_closedBy 41 rfl) ?_
    refine hm6.mono ?_
    rintro _ m8 ⟨r9, rfl, hm8⟩
    show Ex E MX11_closedBy Q 72 [(0, .ref 123), (1, .int x1), (2, .int x2), (3, .int x3), (4, .int x4), (5, .int x5), (6, .long x6), (8, .int x8)] [.int r9, .ref 139, .long x6] m8
    have b10 := hm8.1
    have hb10 := hm8.2
    refine y_lald (j := r9.toNatClampNeg) k139 l139 b10 rfl (dk zX11_closedBy 42 rfl) ?_
    refine x_aload_n 0 rfl rfl (dk zX11_closedBy 43 rfl) ?_
    refine gf11_25 (r := 139) rfl k123 r123_25 (dk zX11_closedBy 44 rfl) ?_
    refine x_iload_n 2 rfl rfl (dk zX11_closedBy 45 rfl) ?_
    refine x_iload_n 3 rfl rfl (dk zX11_closedBy 46 rfl) ?_
    refine x_iload 4 rfl (dk zX11_closedBy 47 rfl) ?_
    refine x_iload 5 rfl (dk zX11_closedBy 48 rfl) ?_
    refine x_iconst (v := 2) (by decide) (dk zX11_closedBy 49 rfl) ?_
    refine x_isub (dk zX11_closedBy 50 rfl) ?_
    refine x_iload 7 rfl (dk zX11_closedBy 51 rfl) ?_
    refine x_isub (dk zX11_closedBy 52 rfl) ?_
    refine x_callS (as := [.int x2, .int x3, .int x4, .int ((x5 - 2) - x8)]) (st := [.ref 139, .long (m8.2 139 r9.toNatClampNeg), .long x6]) rfl okRX11_289 npX11_index ⟨Nat.le_of_ble_eq_true rfl, Nat.le_of_ble_eq_true rfl⟩ (Nat.le_of_ble_eq_true rfl) (dk zX11_closedBy 53 rfl) ?_
    refine hb10.mono ?_
    rintro _ m11 ⟨r12, rfl, hm11⟩
    show Ex E MX11_closedBy Q 91 [(0, .ref 123), (1, .int x1), (2, .int x2), (3, .int x3), (4, .int x4), (5, .int x5), (6, .long x6), (8, .int x8)] [.int r12, .ref 139, .long (m8.2 139 r9.toNatClampNeg), .long x6] m11
    have b13 := hm11.1
    have hb13 := hm11.2
    refine y_lald (j := r12.toNatClampNeg) k139 l139 b13 rfl (dk zX11_closedBy 54 rfl) ?_
    refine x_lmul (dk zX11_closedBy 55 rfl) ?_
    refine x_ladd (dk zX11_closedBy 56 rfl) ?_
    refine x_topl (fun v14 ev14 => ?_)
    have hv14 := hb13 v14 ev14
    refine x_lstoreG (l' := [(0, .ref 123), (1, .int x1), (2, .int x2), (3, .int x3), (4, .int x4), (5, .int x5), (6, .long v14), (8, .int x8)]) [1, 2, 3, 4, 5, 6, 0, 7] rfl (by decide) (dk zX11_closedBy 57 rfl) ?_
    obtain ⟨v15, ev15⟩ : ∃ y : Int32, y = x8 + 1 := ⟨_, rfl⟩
    have hv15 := hv14 v15 ev15
    refine x_iinc (v := v15) (l' := [(0, .ref 123), (1, .int x1), (2, .int x2), (3, .int x3), (4, .int x4), (5, .int x5), (6, .long v14), (8, .int v15)]) 7 rfl (by rw [ev15]; rfl) [1, 2, 3, 4, 5, 6, 7, 0] rfl (by decide) (dk zX11_closedBy 58 rfl) ?_
    refine x_goto (tgt := 38) (by decide) (dk zX11_closedBy 59 rfl) ?_
    exact hv15
set_option maxRecDepth 20000 in
set_option maxHeartbeats 2000000 in
theorem gX11_findClosed_0 {E : EV} {Q : Po} {μ : Mem} {x1 : Int32} (h : Ex E MX11_findClosed Q 2 [(0, .ref 123), (1, .int x1), (2, .int 0)] [] μ) : Ex E MX11_findClosed Q 0 [(0, .ref 123), (1, .int x1)] [] μ := by
  refine x_iconst (v := 0) (by decide) (dk zX11_findClosed 0 rfl) ?_
  refine x_istore_n (k := 2) (l' := [(0, .ref 123), (1, .int x1), (2, .int 0)]) [1, 2, 0] rfl rfl (by decide) (dk zX11_findClosed 1 rfl) ?_
  exact h
set_option maxRecDepth 20000 in
set_option maxHeartbeats 2000000 in
theorem gX11_findClosed_2 {E : EV} {Q : Po} {μ : Mem} {x1 : Int32} {x2 : Int32} (h : ((18 < x2 → Q none μ) ∧ (¬ 18 < x2 → Ex E MX11_findClosed Q 10 [(0, .ref 123), (1, .int x1), (2, .int x2), (3, .int 0)] [] μ))) : Ex E MX11_findClosed Q 2 [(0, .ref 123), (1, .int x1), (2, .int x2)] [] μ := by
  refine x_iload_n 2 rfl rfl (dk zX11_findClosed 2 rfl) ?_
  refine x_bipush (v := 18) (by decide) (dk zX11_findClosed 3 rfl) ?_
  refine x_icmp_gt (tgt := 159) (by decide) (dk zX11_findClosed 4 rfl) (fun c1 => ?_) (fun c1 => ?_)
  · have hc1t := h.1 c1
    exact x_vret rfl (dk zX11_findClosed 84 rfl) hc1t
  · have hc1f := h.2 c1
    refine x_iconst (v := 0) (by decide) (dk zX11_findClosed 5 rfl) ?_
    refine x_istore_n (k := 3) (l' := [(0, .ref 123), (1, .int x1), (2, .int x2), (3, .int 0)]) [1, 2, 3, 0] rfl rfl (by decide) (dk zX11_findClosed 6 rfl) ?_
    exact hc1f
set_option maxRecDepth 20000 in
set_option maxHeartbeats 2000000 in
theorem gX11_findClosed_10 {E : EV} {Q : Po} {μ : Mem} {x1 : Int32} {x2 : Int32} {x3 : Int32} (h : ((8 ≤ x3 → ∀ v2 : Int32, v2 = x2 + 1 → Ex E MX11_findClosed Q 2 [(0, .ref 123), (1, .int x1), (2, .int v2)] [] μ) ∧ (¬ 8 ≤ x3 → Ex E MX11_findClosed Q 19 [(0, .ref 123), (1, .int x1), (2, .int x2), (3, .int x3), (4, .int 0)] [] μ))) : Ex E MX11_findClosed Q 10 [(0, .ref 123), (1, .int x1), (2, .int x2), (3, .int x3)] [] μ := by
  refine x_iload_n 3 rfl rfl (dk zX11_findClosed 7 rfl) ?_
  refine x_bipush (v := 8) (by decide) (dk zX11_findClosed 8 rfl) ?_
  refine x_icmp_ge (tgt := 153) (by decide) (dk zX11_findClosed 9 rfl) (fun c1 => ?_) (fun c1 => ?_)
  · have hc1t := h.1 c1
    obtain ⟨v2, ev2⟩ : ∃ y : Int32, y = x2 + 1 := ⟨_, rfl⟩
    have hv2 := hc1t v2 ev2
    refine x_iinc (v := v2) (l' := [(0, .ref 123), (1, .int x1), (2, .int v2), (3, .int x3)]) 2 rfl (by rw [ev2]; rfl) [1, 2, 0, 3] rfl (by decide) (dk zX11_findClosed 82 rfl) ?_
    refine x_goto (tgt := 2) (by decide) (dk zX11_findClosed 83 rfl) ?_
    exact x_sub [0, 1, 2] rfl hv2
  · have hc1f := h.2 c1
    refine x_iconst (v := 0) (by decide) (dk zX11_findClosed 10 rfl) ?_
    refine x_istoreG (l' := [(0, .ref 123), (1, .int x1), (2, .int x2), (3, .int x3), (4, .int 0)]) [1, 2, 3, 4, 0] rfl (by decide) (dk zX11_findClosed 11 rfl) ?_
    exact hc1f
set_option maxRecDepth 20000 in
set_option maxHeartbeats 2000000 in
theorem gX11_findClosed_19 {E : EV} {Q : Po} {μ : Mem} {x1 : Int32} {x2 : Int32} {x3 : Int32} {x4 : Int32} (h : ((8 ≤ x4 → ∀ v2 : Int32, v2 = x3 + 1 → Ex E MX11_findClosed Q 10 [(0, .ref 123), (1, .int x1), (2, .int x2), (3, .int v2)] [] μ) ∧ (¬ 8 ≤ x4 → ((¬ x1 = 0 → Ex E MX11_findClosed Q 46 [(0, .ref 123), (1, .int x1), (2, .int x2), (3, .int x3), (4, .int x4), (5, .long 0), (7, .int 0)] [] μ) ∧ (x1 = 0 → ((¬ x3 = x4 → Ex E MX11_findClosed Q 46 [(0, .ref 123), (1, .int x1), (2, .int x2), (3, .int x3), (4, .int x4), (5, .long 0), (7, .int 0)] [] μ) ∧ (x3 = x4 → Ex E MX11_findClosed Q 46 [(0, .ref 123), (1, .int x1), (2, .int x2), (3, .int x3), (4, .int x4), (5, .long 1), (7, .int 0)] [] μ))))))) : Ex E MX11_findClosed Q 19 [(0, .ref 123), (1, .int x1), (2, .int x2), (3, .int x3), (4, .int x4)] [] μ := by
  refine x_iload 4 rfl (dk zX11_findClosed 12 rfl) ?_
  refine x_bipush (v := 8) (by decide) (dk zX11_findClosed 13 rfl) ?_
  refine x_icmp_ge (tgt := 147) (by decide) (dk zX11_findClosed 14 rfl) (fun c1 => ?_) (fun c1 => ?_)
  · have hc1t := h.1 c1
    obtain ⟨v2, ev2⟩ : ∃ y : Int32, y = x3 + 1 := ⟨_, rfl⟩
    have hv2 := hc1t v2 ev2
    refine x_iinc (v := v2) (l' := [(0, .ref 123), (1, .int x1), (2, .int x2), (3, .int v2), (4, .int x4)]) 3 rfl (by rw [ev2]; rfl) [1, 2, 3, 0, 4] rfl (by decide) (dk zX11_findClosed 80 rfl) ?_
    refine x_goto (tgt := 10) (by decide) (dk zX11_findClosed 81 rfl) ?_
    exact x_sub [0, 1, 2, 3] rfl hv2
  · have hc1f := h.2 c1
    refine x_iload_n 1 rfl rfl (dk zX11_findClosed 15 rfl) ?_
    refine x_if_ne (tgt := 40) (by decide) (dk zX11_findClosed 16 rfl) (fun c3 => ?_) (fun c3 => ?_)
    · have hc3t := hc1f.1 c3
      refine x_lconst (v := 0) (by decide) (dk zX11_findClosed 22 rfl) ?_
      refine x_lstoreG (l' := [(0, .ref 123), (1, .int x1), (2, .int x2), (3, .int x3), (4, .int x4), (5, .long 0)]) [1, 2, 3, 4, 5, 0] rfl (by decide) (dk zX11_findClosed 23 rfl) ?_
      refine x_iconst (v := 0) (by decide) (dk zX11_findClosed 24 rfl) ?_
      refine x_istoreG (l' := [(0, .ref 123), (1, .int x1), (2, .int x2), (3, .int x3), (4, .int x4), (5, .long 0), (7, .int 0)]) [1, 2, 3, 4, 5, 6, 0] rfl (by decide) (dk zX11_findClosed 25 rfl) ?_
      exact hc3t
    · have hc3f := hc1f.2 c3
      refine x_iload_n 3 rfl rfl (dk zX11_findClosed 17 rfl) ?_
      refine x_iload 4 rfl (dk zX11_findClosed 18 rfl) ?_
      refine x_icmp_ne (tgt := 40) (by decide) (dk zX11_findClosed 19 rfl) (fun c4 => ?_) (fun c4 => ?_)
      · have hc4t := hc3f.1 c4
        refine x_lconst (v := 0) (by decide) (dk zX11_findClosed 22 rfl) ?_
        refine x_lstoreG (l' := [(0, .ref 123), (1, .int x1), (2, .int x2), (3, .int x3), (4, .int x4), (5, .long 0)]) [1, 2, 3, 4, 5, 0] rfl (by decide) (dk zX11_findClosed 23 rfl) ?_
        refine x_iconst (v := 0) (by decide) (dk zX11_findClosed 24 rfl) ?_
        refine x_istoreG (l' := [(0, .ref 123), (1, .int x1), (2, .int x2), (3, .int x3), (4, .int x4), (5, .long 0), (7, .int 0)]) [1, 2, 3, 4, 5, 6, 0] rfl (by decide) (dk zX11_findClosed 25 rfl) ?_
        exact hc4t
      · have hc4f := hc3f.2 c4
        refine x_lconst (v := 1) (by decide) (dk zX11_findClosed 20 rfl) ?_
        refine x_goto (tgt := 41) (by decide) (dk zX11_findClosed 21 rfl) ?_
        refine x_lstoreG (l' := [(0, .ref 123), (1, .int x1), (2, .int x2), (3, .int x3), (4, .int x4), (5, .long 1)]) [1, 2, 3, 4, 5, 0] rfl (by decide) (dk zX11_findClosed 23 rfl) ?_
        refine x_iconst (v := 0) (by decide) (dk zX11_findClosed 24 rfl) ?_
        refine x_istoreG (l' := [(0, .ref 123), (1, .int x1), (2, .int x2), (3, .int x3), (4, .int x4), (5, .long 1), (7, .int 0)]) [1, 2, 3, 4, 5, 6, 0] rfl (by decide) (dk zX11_findClosed 25 rfl) ?_
        exact hc4f
set_option maxRecDepth 20000 in
set_option maxHeartbeats 2000000 in
theorem gX11_findClosed_46 {E : EV} {Q : Po} {μ : Mem} {x1 : Int32} {x2 : Int32} {x3 : Int32} {x4 : Int32} {x5 : Int64} {x7 : Int32} (h : (((2 * (μ.1 123 8)) ≤ x7 → Sp E MX11_index [.int x2, .int x3, .int x4, .int x1] μ (fun v m2 => ∃ r3 : Int32, v = some (.int r3) ∧ vp_in r3 15808 ∧ (∀ v5 : Int32, v5 = x4 + 1 → Ex E MX11_findClosed Q 19 [(0, .ref 123), (1, .int x1), (2, .int x2), (3, .int x3), (4, .int v5)] [] (mJ m2 139 r3.toNatClampNeg x5)))) ∧ (¬ (2 * (μ.1 123 8)) ≤ x7 → ((x1 ≤ 0 → Sp E MX11_index [.int x2, .int x3, .int x4, .int x1] μ (fun v m7 => ∃ r8 : Int32, v = some (.int r8) ∧ vp_in r8 15808 ∧ (∀ v10 : Int32, v10 = x4 + 1 → Ex E MX11_findClosed Q 19 [(0, .ref 123), (1, .int x1), (2, .int x2), (3, .int x3), (4, .int v10)] [] (mJ m7 139 r8.toNatClampNeg x5)))) ∧ (¬ x1 ≤ 0 → Sp E MX11_start [.ref 123, .int x7] μ (fun v m11 => ∃ r12 : Int32, v = some (.int r12) ∧ ((¬ r12 = x3 → ∀ v14 : Int64, v14 = x5 + 0 → ∀ v15 : Int32, v15 = x7 + 1 → Ex E MX11_findClosed Q 46 [(0, .ref 123), (1, .int x1), (2, .int x2), (3, .int x3), (4, .int x4), (5, .long v14), (7, .int v15)] [] m11) ∧ (r12 = x3 → Sp E MX11_isShut [.ref 123, .int (x7 / 2)] m11 (fun v m16 => ∃ r17 : Int32, v = some (.int r17) ∧ ((¬ r17 = 0 → ∀ v19 : Int64, v19 = x5 + 0 → ∀ v20 : Int32, v20 = x7 + 1 → Ex E MX11_findClosed Q 46 [(0, .ref 123), (1, .int x1), (2, .int x2), (3, .int x3), (4, .int x4), (5, .long v19), (7, .int v20)] [] m16) ∧ (r17 = 0 → ((¬ x7 = x2 → Sp E MX11_closedBy [.ref 123, .int x7, .int x2, .int x3, .int x4, .int x1] m16 (fun v m22 => ∃ r23 : Int64, v = some (.long r23) ∧ ∀ v24 : Int64, v24 = x5 + r23 → ∀ v25 : Int32, v25 = x7 + 1 → Ex E MX11_findClosed Q 46 [(0, .ref 123), (1, .int x1), (2, .int x2), (3, .int x3), (4, .int x4), (5, .long v24), (7, .int v25)] [] m22)) ∧ (x7 = x2 → vp_in (x7 / 2) 9 ∧ (((¬ (m16.1 132 ((x7 / 2).toNatClampNeg)) = 0 → ∀ v28 : Int64, v28 = x5 + 0 → ∀ v29 : Int32, v29 = x7 + 1 → Ex E MX11_findClosed Q 46 [(0, .ref 123), (1, .int x1), (2, .int x2), (3, .int x3), (4, .int x4), (5, .long v28), (7, .int v29)] [] m16) ∧ ((m16.1 132 ((x7 / 2).toNatClampNeg)) = 0 → Sp E MX11_closedBy [.ref 123, .int x7, .int x2, .int x3, .int x4, .int x1] m16 (fun v m30 => ∃ r31 : Int64, v = some (.long r31) ∧ ∀ v32 : Int64, v32 = x5 + r31 → ∀ v33 : Int32, v33 = x7 + 1 → Ex E MX11_findClosed Q 46 [(0, .ref 123), (1, .int x1), (2, .int x2), (3, .int x3), (4, .int x4), (5, .long v32), (7, .int v33)] [] m30))))))))))))))))) : Ex E MX11_findClosed Q 46 [(0, .ref 123), (1, .int x1), (2, .int x2), (3, .int x3), (4, .int x4), (5, .long x5), (7, .int x7)] [] μ := by
  refine x_iload 6 rfl (dk zX11_findClosed 26 rfl) ?_
  refine x_iconst (v := 2) (by decide) (dk zX11_findClosed 27 rfl) ?_
  refine x_aload_n 0 rfl rfl (dk zX11_findClosed 28 rfl) ?_
  refine gf11_8 rfl k123 (dk zX11_findClosed 29 rfl) ?_
  refine x_imul (dk zX11_findClosed 30 rfl) ?_
  refine x_icmp_ge (tgt := 126) (by decide) (dk zX11_findClosed 31 rfl) (fun c1 => ?_) (fun c1 => ?_)
  · have hc1t := h.1 c1
    refine x_aload_n 0 rfl rfl (dk zX11_findClosed 69 rfl) ?_
    refine gf11_25 (r := 139) rfl k123 r123_25 (dk zX11_findClosed 70 rfl) ?_
    refine x_iload_n 2 rfl rfl (dk zX11_findClosed 71 rfl) ?_
    refine x_iload_n 3 rfl rfl (dk zX11_findClosed 72 rfl) ?_
    refine x_iload 4 rfl (dk zX11_findClosed 73 rfl) ?_
    refine x_iload_n 1 rfl rfl (dk zX11_findClosed 74 rfl) ?_
    refine x_callS (as := [.int x2, .int x3, .int x4, .int x1]) (st := [.ref 139]) rfl okRX11_289 npX11_index ⟨Nat.le_of_ble_eq_true rfl, Nat.le_of_ble_eq_true rfl⟩ (Nat.le_of_ble_eq_true rfl) (dk zX11_findClosed 75 rfl) ?_
    refine hc1t.mono ?_
    rintro _ m2 ⟨r3, rfl, hm2⟩
    show Ex E MX11_findClosed Q 138 [(0, .ref 123), (1, .int x1), (2, .int x2), (3, .int x3), (4, .int x4), (5, .long x5), (7, .int x7)] [.int r3, .ref 139] m2
    refine x_lload 5 rfl (dk zX11_findClosed 76 rfl) ?_
    have b4 := hm2.1
    have hb4 := hm2.2
    refine y_last (j := r3.toNatClampNeg) k139 l139 b4 rfl (dk zX11_findClosed 77 rfl) ?_
    obtain ⟨v5, ev5⟩ : ∃ y : Int32, y = x4 + 1 := ⟨_, rfl⟩
    have hv5 := hb4 v5 ev5
    refine x_iinc (v := v5) (l' := [(0, .ref 123), (1, .int x1), (2, .int x2), (3, .int x3), (4, .int v5), (5, .long x5), (7, .int x7)]) 4 rfl (by rw [ev5]; rfl) [1, 2, 3, 4, 0, 5, 6] rfl (by decide) (dk zX11_findClosed 78 rfl) ?_
    refine x_goto (tgt := 19) (by decide) (dk zX11_findClosed 79 rfl) ?_
    exact x_sub [0, 1, 2, 3, 4] rfl hv5
  · have hc1f := h.2 c1
    refine x_iload_n 1 rfl rfl (dk zX11_findClosed 32 rfl) ?_
    refine x_if_le (tgt := 126) (by decide) (dk zX11_findClosed 33 rfl) (fun c6 => ?_) (fun c6 => ?_)
    · have hc6t := hc1f.1 c6
      refine x_aload_n 0 rfl rfl (dk zX11_findClosed 69 rfl) ?_
      refine gf11_25 (r := 139) rfl k123 r123_25 (dk zX11_findClosed 70 rfl) ?_
      refine x_iload_n 2 rfl rfl (dk zX11_findClosed 71 rfl) ?_
      refine x_iload_n 3 rfl rfl (dk zX11_findClosed 72 rfl) ?_
      refine x_iload 4 rfl (dk zX11_findClosed 73 rfl) ?_
      refine x_iload_n 1 rfl rfl (dk zX11_findClosed 74 rfl) ?_
      refine x_callS (as := [.int x2, .int x3, .int x4, .int x1]) (st := [.ref 139]) rfl okRX11_289 npX11_index ⟨Nat.le_of_ble_eq_true rfl, Nat.le_of_ble_eq_true rfl⟩ (Nat.le_of_ble_eq_true rfl) (dk zX11_findClosed 75 rfl) ?_
      refine hc6t.mono ?_
      rintro _ m7 ⟨r8, rfl, hm7⟩
      show Ex E MX11_findClosed Q 138 [(0, .ref 123), (1, .int x1), (2, .int x2), (3, .int x3), (4, .int x4), (5, .long x5), (7, .int x7)] [.int r8, .ref 139] m7
      refine x_lload 5 rfl (dk zX11_findClosed 76 rfl) ?_
      have b9 := hm7.1
      have hb9 := hm7.2
      refine y_last (j := r8.toNatClampNeg) k139 l139 b9 rfl (dk zX11_findClosed 77 rfl) ?_
      obtain ⟨v10, ev10⟩ : ∃ y : Int32, y = x4 + 1 := ⟨_, rfl⟩
      have hv10 := hb9 v10 ev10
      refine x_iinc (v := v10) (l' := [(0, .ref 123), (1, .int x1), (2, .int x2), (3, .int x3), (4, .int v10), (5, .long x5), (7, .int x7)]) 4 rfl (by rw [ev10]; rfl) [1, 2, 3, 4, 0, 5, 6] rfl (by decide) (dk zX11_findClosed 78 rfl) ?_
      refine x_goto (tgt := 19) (by decide) (dk zX11_findClosed 79 rfl) ?_
      exact x_sub [0, 1, 2, 3, 4] rfl hv10
    · have hc6f := hc1f.2 c6
      refine x_lload 5 rfl (dk zX11_findClosed 34 rfl) ?_
      refine x_aload_n 0 rfl rfl (dk zX11_findClosed 35 rfl) ?_
      refine x_iload 6 rfl (dk zX11_findClosed 36 rfl) ?_
      refine x_callV (as := [.int x7]) (o := 123) (ci := 11) (st := [.long x5]) rfl okRX11_166 npX11_start ⟨Nat.le_of_ble_eq_true rfl, Nat.le_of_ble_eq_true rfl⟩ k123 (by decide) rfl (Nat.le_of_ble_eq_true rfl) (dk zX11_findClosed 37 rfl) ?_
      refine hc6f.mono ?_
      rintro _ m11 ⟨r12, rfl, hm11⟩
      show Ex E MX11_findClosed Q 69 [(0, .ref 123), (1, .int x1), (2, .int x2), (3, .int x3), (4, .int x4), (5, .long x5), (7, .int x7)] [.int r12, .long x5] m11
      refine x_iload_n 3 rfl rfl (dk zX11_findClosed 38 rfl) ?_
      refine x_icmp_ne (tgt := 116) (by decide) (dk zX11_findClosed 39 rfl) (fun c13 => ?_) (fun c13 => ?_)
      · have hc13t := hm11.1 c13
        refine x_lconst (v := 0) (by decide) (dk zX11_findClosed 64 rfl) ?_
        refine x_ladd (dk zX11_findClosed 65 rfl) ?_
        refine x_topl (fun v14 ev14 => ?_)
        have hv14 := hc13t v14 ev14
        refine x_lstoreG (l' := [(0, .ref 123), (1, .int x1), (2, .int x2), (3, .int x3), (4, .int x4), (5, .long v14), (7, .int x7)]) [1, 2, 3, 4, 5, 0, 6] rfl (by decide) (dk zX11_findClosed 66 rfl) ?_
        obtain ⟨v15, ev15⟩ : ∃ y : Int32, y = x7 + 1 := ⟨_, rfl⟩
        have hv15 := hv14 v15 ev15
        refine x_iinc (v := v15) (l' := [(0, .ref 123), (1, .int x1), (2, .int x2), (3, .int x3), (4, .int x4), (5, .long v14), (7, .int v15)]) 6 rfl (by rw [ev15]; rfl) [1, 2, 3, 4, 5, 6, 0] rfl (by decide) (dk zX11_findClosed 67 rfl) ?_
        refine x_goto (tgt := 46) (by decide) (dk zX11_findClosed 68 rfl) ?_
        exact hv15
      · have hc13f := hm11.2 c13
        refine x_aload_n 0 rfl rfl (dk zX11_findClosed 40 rfl) ?_
        refine x_iload 6 rfl (dk zX11_findClosed 41 rfl) ?_
        refine x_iconst (v := 2) (by decide) (dk zX11_findClosed 42 rfl) ?_
        refine x_idiv (by decide) (dk zX11_findClosed 43 rfl) ?_
        refine x_callV (as := [.int (x7 / 2)]) (o := 123) (ci := 11) (st := [.long x5]) rfl okRX11_172 npX11_isShut ⟨Nat.le_of_ble_eq_true rfl, Nat.le_of_ble_eq_true rfl⟩ k123 (by decide) rfl (Nat.le_of_ble_eq_true rfl) (dk zX11_findClosed 44 rfl) ?_
        refine hc13f.mono ?_
        rintro _ m16 ⟨r17, rfl, hm16⟩
        show Ex E MX11_findClosed Q 81 [(0, .ref 123), (1, .int x1), (2, .int x2), (3, .int x3), (4, .int x4), (5, .long x5), (7, .int x7)] [.int r17, .long x5] m16
        refine x_if_ne (tgt := 116) (by decide) (dk zX11_findClosed 45 rfl) (fun c18 => ?_) (fun c18 => ?_)
        · have hc18t := hm16.1 c18
          refine x_lconst (v := 0) (by decide) (dk zX11_findClosed 64 rfl) ?_
          refine x_ladd (dk zX11_findClosed 65 rfl) ?_
          refine x_topl (fun v19 ev19 => ?_)
          have hv19 := hc18t v19 ev19
          refine x_lstoreG (l' := [(0, .ref 123), (1, .int x1), (2, .int x2), (3, .int x3), (4, .int x4), (5, .long v19), (7, .int x7)]) [1, 2, 3, 4, 5, 0, 6] rfl (by decide) (dk zX11_findClosed 66 rfl) ?_
          obtain ⟨v20, ev20⟩ : ∃ y : Int32, y = x7 + 1 := ⟨_, rfl⟩
          have hv20 := hv19 v20 ev20
          refine x_iinc (v := v20) (l' := [(0, .ref 123), (1, .int x1), (2, .int x2), (3, .int x3), (4, .int x4), (5, .long v19), (7, .int v20)]) 6 rfl (by rw [ev20]; rfl) [1, 2, 3, 4, 5, 6, 0] rfl (by decide) (dk zX11_findClosed 67 rfl) ?_
          refine x_goto (tgt := 46) (by decide) (dk zX11_findClosed 68 rfl) ?_
          exact hv20
        · have hc18f := hm16.2 c18
          refine x_iload 6 rfl (dk zX11_findClosed 46 rfl) ?_
          refine x_iload_n 2 rfl rfl (dk zX11_findClosed 47 rfl) ?_
          refine x_icmp_ne (tgt := 102) (by decide) (dk zX11_findClosed 48 rfl) (fun c21 => ?_) (fun c21 => ?_)
          · have hc21t := hc18f.1 c21
            refine x_aload_n 0 rfl rfl (dk zX11_findClosed 56 rfl) ?_
            refine x_iload 6 rfl (dk zX11_findClosed 57 rfl) ?_
            refine x_iload_n 2 rfl rfl (dk zX11_findClosed 58 rfl) ?_
            refine x_iload_n 3 rfl rfl (dk zX11_findClosed 59 rfl) ?_
            refine x_iload 4 rfl (dk zX11_findClosed 60 rfl) ?_
            refine x_iload_n 1 rfl rfl (dk zX11_findClosed 61 rfl) ?_
            refine x_callV (as := [.int x7, .int x2, .int x3, .int x4, .int x1]) (o := 123) (ci := 11) (st := [.long x5]) rfl okRX11_286 npX11_closedBy ⟨Nat.le_of_ble_eq_true rfl, Nat.le_of_ble_eq_true rfl⟩ k123 (by decide) rfl (Nat.le_of_ble_eq_true rfl) (dk zX11_findClosed 62 rfl) ?_
            refine hc21t.mono ?_
            rintro _ m22 ⟨r23, rfl, hm22⟩
            show Ex E MX11_findClosed Q 113 [(0, .ref 123), (1, .int x1), (2, .int x2), (3, .int x3), (4, .int x4), (5, .long x5), (7, .int x7)] [.long r23, .long x5] m22
            refine x_goto (tgt := 117) (by decide) (dk zX11_findClosed 63 rfl) ?_
            refine x_ladd (dk zX11_findClosed 65 rfl) ?_
            refine x_topl (fun v24 ev24 => ?_)
            have hv24 := hm22 v24 ev24
            refine x_lstoreG (l' := [(0, .ref 123), (1, .int x1), (2, .int x2), (3, .int x3), (4, .int x4), (5, .long v24), (7, .int x7)]) [1, 2, 3, 4, 5, 0, 6] rfl (by decide) (dk zX11_findClosed 66 rfl) ?_
            obtain ⟨v25, ev25⟩ : ∃ y : Int32, y = x7 + 1 := ⟨_, rfl⟩
            have hv25 := hv24 v25 ev25
            refine x_iinc (v := v25) (l' := [(0, .ref 123), (1, .int x1), (2, .int x2), (3, .int x3), (4, .int x4), (5, .long v24), (7, .int v25)]) 6 rfl (by rw [ev25]; rfl) [1, 2, 3, 4, 5, 6, 0] rfl (by decide) (dk zX11_findClosed 67 rfl) ?_
            refine x_goto (tgt := 46) (by decide) (dk zX11_findClosed 68 rfl) ?_
            exact hv25
          · have hc21f := hc18f.2 c21
            refine x_aload_n 0 rfl rfl (dk zX11_findClosed 49 rfl) ?_
            refine gf11_11 (r := 132) rfl k123 r123_11 (dk zX11_findClosed 50 rfl) ?_
            refine x_iload 6 rfl (dk zX11_findClosed 51 rfl) ?_
            refine x_iconst (v := 2) (by decide) (dk zX11_findClosed 52 rfl) ?_
            refine x_idiv (by decide) (dk zX11_findClosed 53 rfl) ?_
            have b26 := hc21f.1
            have hb26 := hc21f.2
            refine y_zald (j := (x7 / 2).toNatClampNeg) k132 l132 b26 rfl (dk zX11_findClosed 54 rfl) ?_
            refine x_if_ne (tgt := 116) (by decide) (dk zX11_findClosed 55 rfl) (fun c27 => ?_) (fun c27 => ?_)
            · have hc27t := hb26.1 c27
              refine x_lconst (v := 0) (by decide) (dk zX11_findClosed 64 rfl) ?_
              refine x_ladd (dk zX11_findClosed 65 rfl) ?_
              refine x_topl (fun v28 ev28 => ?_)
              have hv28 := hc27t v28 ev28
              refine x_lstoreG (l' := [(0, .ref 123), (1, .int x1), (2, .int x2), (3, .int x3), (4, .int x4), (5, .long v28), (7, .int x7)]) [1, 2, 3, 4, 5, 0, 6] rfl (by decide) (dk zX11_findClosed 66 rfl) ?_
              obtain ⟨v29, ev29⟩ : ∃ y : Int32, y = x7 + 1 := ⟨_, rfl⟩
              have hv29 := hv28 v29 ev29
              refine x_iinc (v := v29) (l' := [(0, .ref 123), (1, .int x1), (2, .int x2), (3, .int x3), (4, .int x4), (5, .long v28), (7, .int v29)]) 6 rfl (by rw [ev29]; rfl) [1, 2, 3, 4, 5, 6, 0] rfl (by decide) (dk zX11_findClosed 67 rfl) ?_
              refine x_goto (tgt := 46) (by decide) (dk zX11_findClosed 68 rfl) ?_
              exact hv29
            · have hc27f := hb26.2 c27
              refine x_aload_n 0 rfl rfl (dk zX11_findClosed 56 rfl) ?_
              refine x_iload 6 rfl (dk zX11_findClosed 57 rfl) ?_
              refine x_iload_n 2 rfl rfl (dk zX11_findClosed 58 rfl) ?_
              refine x_iload_n 3 rfl rfl (dk zX11_findClosed 59 rfl) ?_
              refine x_iload 4 rfl (dk zX11_findClosed 60 rfl) ?_
              refine x_iload_n 1 rfl rfl (dk zX11_findClosed 61 rfl) ?_
              refine x_callV (as := [.int x7, .int x2, .int x3, .int x4, .int x1]) (o := 123) (ci := 11) (st := [.long x5]) rfl okRX11_286 npX11_closedBy ⟨Nat.le_of_ble_eq_true rfl, Nat.le_of_ble_eq_true rfl⟩ k123 (by decide) rfl (Nat.le_of_ble_eq_true rfl) (dk zX11_findClosed 62 rfl) ?_
              refine hc27f.mono ?_
              rintro _ m30 ⟨r31, rfl, hm30⟩
              show Ex E MX11_findClosed Q 113 [(0, .ref 123), (1, .int x1), (2, .int x2), (3, .int x3), (4, .int x4), (5, .long x5), (7, .int x7)] [.long r31, .long x5] m30
              refine x_goto (tgt := 117) (by decide) (dk zX11_findClosed 63 rfl) ?_
              refine x_ladd (dk zX11_findClosed 65 rfl) ?_
              refine x_topl (fun v32 ev32 => ?_)
              have hv32 := hm30 v32 ev32
              refine x_lstoreG (l' := [(0, .ref 123), (1, .int x1), (2, .int x2), (3, .int x3), (4, .int x4), (5, .long v32), (7, .int x7)]) [1, 2, 3, 4, 5, 0, 6] rfl (by decide) (dk zX11_findClosed 66 rfl) ?_
              obtain ⟨v33, ev33⟩ : ∃ y : Int32, y = x7 + 1 := ⟨_, rfl⟩
              have hv33 := hv32 v33 ev33
              refine x_iinc (v := v33) (l' := [(0, .ref 123), (1, .int x1), (2, .int x2), (3, .int x3), (4, .int x4), (5, .long v32), (7, .int v33)]) 6 rfl (by rw [ev33]; rfl) [1, 2, 3, 4, 5, 6, 0] rfl (by decide) (dk zX11_findClosed 67 rfl) ?_
              refine x_goto (tgt := 46) (by decide) (dk zX11_findClosed 68 rfl) ?_
              exact hv33
set_option maxRecDepth 20000 in
set_option maxHeartbeats 2000000 in
theorem gX11_follows_0 {E : EV} {Q : Po} {μ : Mem} {x1 : Int32} {x2 : Int32} {x3 : Int32} {x4 : Int32} (h : Ex E MX11_follows Q 3 [(0, .ref 123), (1, .int x1), (2, .int x2), (3, .int x3), (4, .int x4), (5, .int 0)] [] μ) : Ex E MX11_follows Q 0 [(0, .ref 123), (1, .int x1), (2, .int x2), (3, .int x3), (4, .int x4)] [] μ := by
  refine x_iconst (v := 0) (by decide) (dk zX11_follows 0 rfl) ?_
  refine x_istoreG (l' := [(0, .ref 123), (1, .int x1), (2, .int x2), (3, .int x3), (4, .int x4), (5, .int 0)]) [1, 2, 3, 4, 5, 0] rfl (by decide) (dk zX11_follows 1 rfl) ?_
  exact h
set_option maxRecDepth 20000 in
set_option maxHeartbeats 2000000 in
theorem gX11_follows_3 {E : EV} {Q : Po} {μ : Mem} {x1 : Int32} {x2 : Int32} {x3 : Int32} {x4 : Int32} {x5 : Int32} (h : ((13 ≤ x5 → Ex E MX11_follows Q 83 [(0, .ref 123), (1, .int x1), (2, .int x2), (3, .int x3), (4, .int x4), (5, .int 0)] [] μ) ∧ (¬ 13 ≤ x5 → vp_in x5 13 ∧ (Ex E MX11_follows Q 21 [(0, .ref 123), (1, .int x1), (2, .int x2), (3, .int x3), (4, .int x4), (5, .int x5), (6, .int 0)] [] (mJ μ 141 x5.toNatClampNeg 0))))) : Ex E MX11_follows Q 3 [(0, .ref 123), (1, .int x1), (2, .int x2), (3, .int x3), (4, .int x4), (5, .int x5)] [] μ := by
  refine x_iload 5 rfl (dk zX11_follows 2 rfl) ?_
  refine x_bipush (v := 13) (by decide) (dk zX11_follows 3 rfl) ?_
  refine x_icmp_ge (tgt := 80) (by decide) (dk zX11_follows 4 rfl) (fun c1 => ?_) (fun c1 => ?_)
  · have hc1t := h.1 c1
    refine x_iconst (v := 0) (by decide) (dk zX11_follows 45 rfl) ?_
    refine x_istoreG (l' := [(0, .ref 123), (1, .int x1), (2, .int x2), (3, .int x3), (4, .int x4), (5, .int 0)]) [1, 2, 3, 4, 5, 0] rfl (by decide) (dk zX11_follows 46 rfl) ?_
    exact hc1t
  · have hc1f := h.2 c1
    refine x_aload_n 0 rfl rfl (dk zX11_follows 5 rfl) ?_
    refine gf11_27 (r := 141) rfl k123 r123_27 (dk zX11_follows 6 rfl) ?_
    refine x_iload 5 rfl (dk zX11_follows 7 rfl) ?_
    refine x_lconst (v := 0) (by decide) (dk zX11_follows 8 rfl) ?_
    have b2 := hc1f.1
    have hb2 := hc1f.2
    refine y_last (j := x5.toNatClampNeg) k141 l141 b2 rfl (dk zX11_follows 9 rfl) ?_
    refine x_iconst (v := 0) (by decide) (dk zX11_follows 10 rfl) ?_
    refine x_istoreG (l' := [(0, .ref 123), (1, .int x1), (2, .int x2), (3, .int x3), (4, .int x4), (5, .int x5), (6, .int 0)]) [1, 2, 3, 4, 5, 6, 0] rfl (by decide) (dk zX11_follows 11 rfl) ?_
    exact hb2
set_option maxRecDepth 20000 in
set_option maxHeartbeats 2000000 in
theorem gX11_follows_83 {E : EV} {Q : Po} {μ : Mem} {x1 : Int32} {x2 : Int32} {x3 : Int32} {x4 : Int32} {x5 : Int32} (h : ((13 ≤ x5 → Q none μ) ∧ (¬ 13 ≤ x5 → vp_in x5 13 ∧ (∀ v3 : Int64, v3 = μ.2 141 x5.toNatClampNeg → ∀ v4 : Int32, v4 = x5 + 1 → Ex E MX11_follows Q 83 [(0, .ref 123), (1, .int x1), (2, .int x2), (3, .int x3), (4, .int x4), (5, .int v4)] [] (mJ μ 140 x5.toNatClampNeg v3))))) : Ex E MX11_follows Q 83 [(0, .ref 123), (1, .int x1), (2, .int x2), (3, .int x3), (4, .int x4), (5, .int x5)] [] μ := by
  refine x_iload 5 rfl (dk zX11_follows 47 rfl) ?_
  refine x_bipush (v := 13) (by decide) (dk zX11_follows 48 rfl) ?_
  refine x_icmp_ge (tgt := 110) (by decide) (dk zX11_follows 49 rfl) (fun c1 => ?_) (fun c1 => ?_)
  · have hc1t := h.1 c1
    exact x_vret rfl (dk zX11_follows 60 rfl) hc1t
  · have hc1f := h.2 c1
    refine x_aload_n 0 rfl rfl (dk zX11_follows 50 rfl) ?_
    refine gf11_26 (r := 140) rfl k123 r123_26 (dk zX11_follows 51 rfl) ?_
    refine x_iload 5 rfl (dk zX11_follows 52 rfl) ?_
    refine x_aload_n 0 rfl rfl (dk zX11_follows 53 rfl) ?_
    refine gf11_27 (r := 141) rfl k123 r123_27 (dk zX11_follows 54 rfl) ?_
    refine x_iload 5 rfl (dk zX11_follows 55 rfl) ?_
    have b2 := hc1f.1
    have hb2 := hc1f.2
    refine y_lald (j := x5.toNatClampNeg) k141 l141 b2 rfl (dk zX11_follows 56 rfl) ?_
    refine x_topl (fun v3 ev3 => ?_)
    have hv3 := hb2 v3 ev3
    refine y_last (j := x5.toNatClampNeg) k140 l140 b2 rfl (dk zX11_follows 57 rfl) ?_
    obtain ⟨v4, ev4⟩ : ∃ y : Int32, y = x5 + 1 := ⟨_, rfl⟩
    have hv4 := hv3 v4 ev4
    refine x_iinc (v := v4) (l' := [(0, .ref 123), (1, .int x1), (2, .int x2), (3, .int x3), (4, .int x4), (5, .int v4)]) 5 rfl (by rw [ev4]; rfl) [1, 2, 3, 4, 5, 0] rfl (by decide) (dk zX11_follows 58 rfl) ?_
    refine x_goto (tgt := 83) (by decide) (dk zX11_follows 59 rfl) ?_
    exact hv4
set_option maxRecDepth 20000 in
set_option maxHeartbeats 2000000 in
theorem gX11_follows_21 {E : EV} {Q : Po} {μ : Mem} {x1 : Int32} {x2 : Int32} {x3 : Int32} {x4 : Int32} {x5 : Int32} {x6 : Int32} (h : ((x5 < (x6 + x4) → ∀ v2 : Int32, v2 = x5 + 1 → Ex E MX11_follows Q 3 [(0, .ref 123), (1, .int x1), (2, .int x2), (3, .int x3), (4, .int x4), (5, .int v2)] [] μ) ∧ (¬ x5 < (x6 + x4) → vp_in x5 13 ∧ (vp_in x6 13 ∧ (Sp E MX11_index [.int x1, .int x2, .int x3, .int ((x5 - x4) - x6)] μ (fun v m5 => ∃ r6 : Int32, v = some (.int r6) ∧ vp_in r6 15808 ∧ (∀ v8 : Int64, v8 = (μ.2 141 x5.toNatClampNeg) + ((μ.2 140 x6.toNatClampNeg) * (m5.2 139 r6.toNatClampNeg)) → ∀ v9 : Int32, v9 = x6 + 1 → Ex E MX11_follows Q 21 [(0, .ref 123), (1, .int x1), (2, .int x2), (3, .int x3), (4, .int x4), (5, .int x5), (6, .int v9)] [] (mJ m5 141 x5.toNatClampNeg v8)))))))) : Ex E MX11_follows Q 21 [(0, .ref 123), (1, .int x1), (2, .int x2), (3, .int x3), (4, .int x4), (5, .int x5), (6, .int x6)] [] μ := by
  refine x_iload 6 rfl (dk zX11_follows 12 rfl) ?_
  refine x_iload 4 rfl (dk zX11_follows 13 rfl) ?_
  refine x_iadd (dk zX11_follows 14 rfl) ?_
  refine x_iload 5 rfl (dk zX11_follows 15 rfl) ?_
  refine x_icmp_gt (tgt := 74) (by decide) (dk zX11_follows 16 rfl) (fun c1 => ?_) (fun c1 => ?_)
  · have hc1t := h.1 c1
    obtain ⟨v2, ev2⟩ : ∃ y : Int32, y = x5 + 1 := ⟨_, rfl⟩
    have hv2 := hc1t v2 ev2
    refine x_iinc (v := v2) (l' := [(0, .ref 123), (1, .int x1), (2, .int x2), (3, .int x3), (4, .int x4), (5, .int v2), (6, .int x6)]) 5 rfl (by rw [ev2]; rfl) [1, 2, 3, 4, 5, 0, 6] rfl (by decide) (dk zX11_follows 43 rfl) ?_
    refine x_goto (tgt := 3) (by decide) (dk zX11_follows 44 rfl) ?_
    exact x_sub [0, 1, 2, 3, 4, 5] rfl hv2
  · have hc1f := h.2 c1
    refine x_aload_n 0 rfl rfl (dk zX11_follows 17 rfl) ?_
    refine gf11_27 (r := 141) rfl k123 r123_27 (dk zX11_follows 18 rfl) ?_
    refine x_iload 5 rfl (dk zX11_follows 19 rfl) ?_
    refine x_dup2ri (dk zX11_follows 20 rfl) ?_
    have b3 := hc1f.1
    have hb3 := hc1f.2
    refine y_lald (j := x5.toNatClampNeg) k141 l141 b3 rfl (dk zX11_follows 21 rfl) ?_
    refine x_aload_n 0 rfl rfl (dk zX11_follows 22 rfl) ?_
    refine gf11_26 (r := 140) rfl k123 r123_26 (dk zX11_follows 23 rfl) ?_
    refine x_iload 6 rfl (dk zX11_follows 24 rfl) ?_
    have b4 := hb3.1
    have hb4 := hb3.2
    refine y_lald (j := x6.toNatClampNeg) k140 l140 b4 rfl (dk zX11_follows 25 rfl) ?_
    refine x_aload_n 0 rfl rfl (dk zX11_follows 26 rfl) ?_
    refine gf11_25 (r := 139) rfl k123 r123_25 (dk zX11_follows 27 rfl) ?_
    refine x_iload_n 1 rfl rfl (dk zX11_follows 28 rfl) ?_
    refine x_iload_n 2 rfl rfl (dk zX11_follows 29 rfl) ?_
    refine x_iload_n 3 rfl rfl (dk zX11_follows 30 rfl) ?_
    refine x_iload 5 rfl (dk zX11_follows 31 rfl) ?_
    refine x_iload 4 rfl (dk zX11_follows 32 rfl) ?_
    refine x_isub (dk zX11_follows 33 rfl) ?_
    refine x_iload 6 rfl (dk zX11_follows 34 rfl) ?_
    refine x_isub (dk zX11_follows 35 rfl) ?_
    refine x_callS (as := [.int x1, .int x2, .int x3, .int ((x5 - x4) - x6)]) (st := [.ref 139, .long (μ.2 140 x6.toNatClampNeg), .long (μ.2 141 x5.toNatClampNeg), .int x5, .ref 141]) rfl okRX11_289 npX11_index ⟨Nat.le_of_ble_eq_true rfl, Nat.le_of_ble_eq_true rfl⟩ (Nat.le_of_ble_eq_true rfl) (dk zX11_follows 36 rfl) ?_
    refine hb4.mono ?_
    rintro _ m5 ⟨r6, rfl, hm5⟩
    show Ex E MX11_follows Q 64 [(0, .ref 123), (1, .int x1), (2, .int x2), (3, .int x3), (4, .int x4), (5, .int x5), (6, .int x6)] [.int r6, .ref 139, .long (μ.2 140 x6.toNatClampNeg), .long (μ.2 141 x5.toNatClampNeg), .int x5, .ref 141] m5
    have b7 := hm5.1
    have hb7 := hm5.2
    refine y_lald (j := r6.toNatClampNeg) k139 l139 b7 rfl (dk zX11_follows 37 rfl) ?_
    refine x_lmul (dk zX11_follows 38 rfl) ?_
    refine x_ladd (dk zX11_follows 39 rfl) ?_
    refine x_topl (fun v8 ev8 => ?_)
    have hv8 := hb7 v8 ev8
    refine y_last (j := x5.toNatClampNeg) k141 l141 b3 rfl (dk zX11_follows 40 rfl) ?_
    obtain ⟨v9, ev9⟩ : ∃ y : Int32, y = x6 + 1 := ⟨_, rfl⟩
    have hv9 := hv8 v9 ev9
    refine x_iinc (v := v9) (l' := [(0, .ref 123), (1, .int x1), (2, .int x2), (3, .int x3), (4, .int x4), (5, .int x5), (6, .int v9)]) 6 rfl (by rw [ev9]; rfl) [1, 2, 3, 4, 5, 6, 0] rfl (by decide) (dk zX11_follows 41 rfl) ?_
    refine x_goto (tgt := 21) (by decide) (dk zX11_follows 42 rfl) ?_
    exact hv9
set_option maxRecDepth 20000 in
set_option maxHeartbeats 2000000 in
theorem gX11_manyOf_0 {E : EV} {Q : Po} {μ : Mem} {x1 : Int32} {x2 : Int32} {x3 : Int32} {x4 : Int32} (h : Sp E MX11_findPaper [.ref 123, .int 0, .int x2] μ (fun v m1 => v = none ∧ Ex E MX11_manyOf Q 9 [(0, .ref 123), (1, .int x1), (2, .int x2), (3, .int x3), (4, .int x4), (5, .int 0)] [] m1)) : Ex E MX11_manyOf Q 0 [(0, .ref 123), (1, .int x1), (2, .int x2), (3, .int x3), (4, .int x4)] [] μ := by
  refine x_aload_n 0 rfl rfl (dk zX11_manyOf 0 rfl) ?_
  refine x_iconst (v := 0) (by decide) (dk zX11_manyOf 1 rfl) ?_
  refine x_iload_n 2 rfl rfl (dk zX11_manyOf 2 rfl) ?_
  refine x_callV (as := [.int 0, .int x2]) (o := 123) (ci := 11) (st := []) rfl okRX11_196 npX11_findPaper ⟨Nat.le_of_ble_eq_true rfl, Nat.le_of_ble_eq_true rfl⟩ k123 (by decide) rfl (Nat.le_of_ble_eq_true rfl) (dk zX11_manyOf 3 rfl) ?_
  refine h.mono ?_
  rintro _ m1 ⟨rfl, hm1⟩
  show Ex E MX11_manyOf Q 6 [(0, .ref 123), (1, .int x1), (2, .int x2), (3, .int x3), (4, .int x4)] [] m1
  refine x_iconst (v := 0) (by decide) (dk zX11_manyOf 4 rfl) ?_
  refine x_istoreG (l' := [(0, .ref 123), (1, .int x1), (2, .int x2), (3, .int x3), (4, .int x4), (5, .int 0)]) [1, 2, 3, 4, 5, 0] rfl (by decide) (dk zX11_manyOf 5 rfl) ?_
  exact hm1
set_option maxRecDepth 20000 in
set_option maxHeartbeats 2000000 in
theorem gX11_manyOf_9 {E : EV} {Q : Po} {μ : Mem} {x1 : Int32} {x2 : Int32} {x3 : Int32} {x4 : Int32} {x5 : Int32} (h : ((12 < x5 → Ex E MX11_manyOf Q 55 [(0, .ref 123), (1, .int x1), (2, .int x2), (3, .int x3), (4, .int x4), (5, .int x1), (6, .int 18), (7, .int 0)] [] μ) ∧ (¬ 12 < x5 → Sp E MX11_findClosed [.ref 123, .int x5] μ (fun v m2 => v = none ∧ ((¬ x5 = 0 → vp_in x5 13 ∧ (∀ v5 : Int32, v5 = x5 + 1 → Ex E MX11_manyOf Q 9 [(0, .ref 123), (1, .int x1), (2, .int x2), (3, .int x3), (4, .int x4), (5, .int v5)] [] (mJ m2 140 x5.toNatClampNeg 0))) ∧ (x5 = 0 → vp_in x5 13 ∧ (∀ v7 : Int32, v7 = x5 + 1 → Ex E MX11_manyOf Q 9 [(0, .ref 123), (1, .int x1), (2, .int x2), (3, .int x3), (4, .int x4), (5, .int v7)] [] (mJ m2 140 x5.toNatClampNeg 1)))))))) : Ex E MX11_manyOf Q 9 [(0, .ref 123), (1, .int x1), (2, .int x2), (3, .int x3), (4, .int x4), (5, .int x5)] [] μ := by
  refine x_iload 5 rfl (dk zX11_manyOf 6 rfl) ?_
  refine x_bipush (v := 12) (by decide) (dk zX11_manyOf 7 rfl) ?_
  refine x_icmp_gt (tgt := 45) (by decide) (dk zX11_manyOf 8 rfl) (fun c1 => ?_) (fun c1 => ?_)
  · have hc1t := h.1 c1
    refine x_iload_n 1 rfl rfl (dk zX11_manyOf 23 rfl) ?_
    refine x_istoreG (l' := [(0, .ref 123), (1, .int x1), (2, .int x2), (3, .int x3), (4, .int x4), (5, .int x1)]) [1, 2, 3, 4, 5, 0] rfl (by decide) (dk zX11_manyOf 24 rfl) ?_
    refine x_bipush (v := 18) (by decide) (dk zX11_manyOf 25 rfl) ?_
    refine x_istoreG (l' := [(0, .ref 123), (1, .int x1), (2, .int x2), (3, .int x3), (4, .int x4), (5, .int x1), (6, .int 18)]) [1, 2, 3, 4, 5, 6, 0] rfl (by decide) (dk zX11_manyOf 26 rfl) ?_
    refine x_iconst (v := 0) (by decide) (dk zX11_manyOf 27 rfl) ?_
    refine x_istoreG (l' := [(0, .ref 123), (1, .int x1), (2, .int x2), (3, .int x3), (4, .int x4), (5, .int x1), (6, .int 18), (7, .int 0)]) [1, 2, 3, 4, 5, 6, 7, 0] rfl (by decide) (dk zX11_manyOf 28 rfl) ?_
    exact hc1t
  · have hc1f := h.2 c1
    refine x_aload_n 0 rfl rfl (dk zX11_manyOf 9 rfl) ?_
    refine x_iload 5 rfl (dk zX11_manyOf 10 rfl) ?_
    refine x_callV (as := [.int x5]) (o := 123) (ci := 11) (st := []) rfl okRX11_292 npX11_findClosed ⟨Nat.le_of_ble_eq_true rfl, Nat.le_of_ble_eq_true rfl⟩ k123 (by decide) rfl (Nat.le_of_ble_eq_true rfl) (dk zX11_manyOf 11 rfl) ?_
    refine hc1f.mono ?_
    rintro _ m2 ⟨rfl, hm2⟩
    show Ex E MX11_manyOf Q 22 [(0, .ref 123), (1, .int x1), (2, .int x2), (3, .int x3), (4, .int x4), (5, .int x5)] [] m2
    refine x_aload_n 0 rfl rfl (dk zX11_manyOf 12 rfl) ?_
    refine gf11_26 (r := 140) rfl k123 r123_26 (dk zX11_manyOf 13 rfl) ?_
    refine x_iload 5 rfl (dk zX11_manyOf 14 rfl) ?_
    refine x_iload 5 rfl (dk zX11_manyOf 15 rfl) ?_
    refine x_if_ne (tgt := 37) (by decide) (dk zX11_manyOf 16 rfl) (fun c3 => ?_) (fun c3 => ?_)
    · have hc3t := hm2.1 c3
      refine x_lconst (v := 0) (by decide) (dk zX11_manyOf 19 rfl) ?_
      have b4 := hc3t.1
      have hb4 := hc3t.2
      refine y_last (j := x5.toNatClampNeg) k140 l140 b4 rfl (dk zX11_manyOf 20 rfl) ?_
      obtain ⟨v5, ev5⟩ : ∃ y : Int32, y = x5 + 1 := ⟨_, rfl⟩
      have hv5 := hb4 v5 ev5
      refine x_iinc (v := v5) (l' := [(0, .ref 123), (1, .int x1), (2, .int x2), (3, .int x3), (4, .int x4), (5, .int v5)]) 5 rfl (by rw [ev5]; rfl) [1, 2, 3, 4, 5, 0] rfl (by decide) (dk zX11_manyOf 21 rfl) ?_
      refine x_goto (tgt := 9) (by decide) (dk zX11_manyOf 22 rfl) ?_
      exact hv5
    · have hc3f := hm2.2 c3
      refine x_lconst (v := 1) (by decide) (dk zX11_manyOf 17 rfl) ?_
      refine x_goto (tgt := 38) (by decide) (dk zX11_manyOf 18 rfl) ?_
      have b6 := hc3f.1
      have hb6 := hc3f.2
      refine y_last (j := x5.toNatClampNeg) k140 l140 b6 rfl (dk zX11_manyOf 20 rfl) ?_
      obtain ⟨v7, ev7⟩ : ∃ y : Int32, y = x5 + 1 := ⟨_, rfl⟩
      have hv7 := hb6 v7 ev7
      refine x_iinc (v := v7) (l' := [(0, .ref 123), (1, .int x1), (2, .int x2), (3, .int x3), (4, .int x4), (5, .int v7)]) 5 rfl (by rw [ev7]; rfl) [1, 2, 3, 4, 5, 0] rfl (by decide) (dk zX11_manyOf 21 rfl) ?_
      refine x_goto (tgt := 9) (by decide) (dk zX11_manyOf 22 rfl) ?_
      exact hv7
set_option maxRecDepth 20000 in
set_option maxHeartbeats 2000000 in
theorem gX11_manyOf_55 {E : EV} {Q : Po} {μ : Mem} {x1 : Int32} {x2 : Int32} {x3 : Int32} {x4 : Int32} {x5 : Int32} {x6 : Int32} {x7 : Int32} (h : (((μ.1 134 0) ≤ x7 → Sp E MX11_follows [.ref 123, .int x6, .int x5, .int x3, .int 0] μ (fun v m2 => v = none ∧ vp_in x4 13 ∧ (Q (some (.long (m2.2 140 x4.toNatClampNeg))) m2))) ∧ (¬ (μ.1 134 0) ≤ x7 → vp_in x7 120 ∧ (∀ v5 : Int32, v5 = μ.1 133 x7.toNatClampNeg → Sp E MX11_isShut [.ref 123, .int (v5 / 2)] μ (fun v m6 => ∃ r7 : Int32, v = some (.int r7) ∧ ((r7 = 0 → Sp E MX11_start [.ref 123, .int v5] m6 (fun v m9 => ∃ r10 : Int32, v = some (.int r10) ∧ Sp E MX11_follows [.ref 123, .int x6, .int x5, .int r10, .int 1] m9 (fun v m11 => v = none ∧ Sp E MX11_end [.ref 123, .int v5] m11 (fun v m12 => ∃ r13 : Int32, v = some (.int r13) ∧ Sp E MX11_back [.int v5] m12 (fun v m14 => ∃ r15 : Int32, v = some (.int r15) ∧ ∀ v16 : Int32, v16 = x7 + 1 → Ex E MX11_manyOf Q 55 [(0, .ref 123), (1, .int x1), (2, .int x2), (3, .int x3), (4, .int x4), (5, .int r13), (6, .int r15), (7, .int v16)] [] m14))))) ∧ (¬ r7 = 0 → Q (some (.long 0)) m6))))))) : Ex E MX11_manyOf Q 55 [(0, .ref 123), (1, .int x1), (2, .int x2), (3, .int x3), (4, .int x4), (5, .int x5), (6, .int x6), (7, .int x7)] [] μ := by
  refine x_iload 7 rfl (dk zX11_manyOf 29 rfl) ?_
  refine x_aload_n 0 rfl rfl (dk zX11_manyOf 30 rfl) ?_
  refine gf11_15 (r := 134) rfl k123 r123_15 (dk zX11_manyOf 31 rfl) ?_
  refine x_iconst (v := 0) (by decide) (dk zX11_manyOf 32 rfl) ?_
  refine y_iald (j := 0) k134 l134 (by unfold vp_in; decide) (by decide) (dk zX11_manyOf 33 rfl) ?_
  refine x_icmp_ge (tgt := 124) (by decide) (dk zX11_manyOf 34 rfl) (fun c1 => ?_) (fun c1 => ?_)
  · have hc1t := h.1 c1
    refine x_aload_n 0 rfl rfl (dk zX11_manyOf 65 rfl) ?_
    refine x_iload 6 rfl (dk zX11_manyOf 66 rfl) ?_
    refine x_iload 5 rfl (dk zX11_manyOf 67 rfl) ?_
    refine x_iload_n 3 rfl rfl (dk zX11_manyOf 68 rfl) ?_
    refine x_iconst (v := 0) (by decide) (dk zX11_manyOf 69 rfl) ?_
    refine x_callV (as := [.int x6, .int x5, .int x3, .int 0]) (o := 123) (ci := 11) (st := []) rfl okRX11_295 npX11_follows ⟨Nat.le_of_ble_eq_true rfl, Nat.le_of_ble_eq_true rfl⟩ k123 (by decide) rfl (Nat.le_of_ble_eq_true rfl) (dk zX11_manyOf 70 rfl) ?_
    refine hc1t.mono ?_
    rintro _ m2 ⟨rfl, hm2⟩
    show Ex E MX11_manyOf Q 134 [(0, .ref 123), (1, .int x1), (2, .int x2), (3, .int x3), (4, .int x4), (5, .int x5), (6, .int x6), (7, .int x7)] [] m2
    refine x_aload_n 0 rfl rfl (dk zX11_manyOf 71 rfl) ?_
    refine gf11_26 (r := 140) rfl k123 r123_26 (dk zX11_manyOf 72 rfl) ?_
    refine x_iload 4 rfl (dk zX11_manyOf 73 rfl) ?_
    have b3 := hm2.1
    have hb3 := hm2.2
    refine y_lald (j := x4.toNatClampNeg) k140 l140 b3 rfl (dk zX11_manyOf 74 rfl) ?_
    exact x_lret rfl (dk zX11_manyOf 75 rfl) hb3
  · have hc1f := h.2 c1
    refine x_aload_n 0 rfl rfl (dk zX11_manyOf 35 rfl) ?_
    refine gf11_14 (r := 133) rfl k123 r123_14 (dk zX11_manyOf 36 rfl) ?_
    refine x_iload 7 rfl (dk zX11_manyOf 37 rfl) ?_
    have b4 := hc1f.1
    have hb4 := hc1f.2
    refine y_iald (j := x7.toNatClampNeg) k133 l133 b4 rfl (dk zX11_manyOf 38 rfl) ?_
    refine x_topi (fun v5 ev5 => ?_)
    have hv5 := hb4 v5 ev5
    refine x_istoreG (l' := [(0, .ref 123), (1, .int x1), (2, .int x2), (3, .int x3), (4, .int x4), (5, .int x5), (6, .int x6), (7, .int x7), (8, .int v5)]) [1, 2, 3, 4, 5, 6, 7, 8, 0] rfl (by decide) (dk zX11_manyOf 39 rfl) ?_
    refine x_aload_n 0 rfl rfl (dk zX11_manyOf 40 rfl) ?_
    refine x_iload 8 rfl (dk zX11_manyOf 41 rfl) ?_
    refine x_iconst (v := 2) (by decide) (dk zX11_manyOf 42 rfl) ?_
    refine x_idiv (by decide) (dk zX11_manyOf 43 rfl) ?_
    refine x_callV (as := [.int (v5 / 2)]) (o := 123) (ci := 11) (st := []) rfl okRX11_172 npX11_isShut ⟨Nat.le_of_ble_eq_true rfl, Nat.le_of_ble_eq_true rfl⟩ k123 (by decide) rfl (Nat.le_of_ble_eq_true rfl) (dk zX11_manyOf 44 rfl) ?_
    refine hv5.mono ?_
    rintro _ m6 ⟨r7, rfl, hm6⟩
    show Ex E MX11_manyOf Q 83 [(0, .ref 123), (1, .int x1), (2, .int x2), (3, .int x3), (4, .int x4), (5, .int x5), (6, .int x6), (7, .int x7), (8, .int v5)] [.int r7] m6
    refine x_if_eq (tgt := 88) (by decide) (dk zX11_manyOf 45 rfl) (fun c8 => ?_) (fun c8 => ?_)
    · have hc8t := hm6.1 c8
      refine x_aload_n 0 rfl rfl (dk zX11_manyOf 48 rfl) ?_
      refine x_iload 6 rfl (dk zX11_manyOf 49 rfl) ?_
      refine x_iload 5 rfl (dk zX11_manyOf 50 rfl) ?_
      refine x_aload_n 0 rfl rfl (dk zX11_manyOf 51 rfl) ?_
      refine x_iload 8 rfl (dk zX11_manyOf 52 rfl) ?_
      refine x_callV (as := [.int v5]) (o := 123) (ci := 11) (st := [.int x5, .int x6, .ref 123]) rfl okRX11_166 npX11_start ⟨Nat.le_of_ble_eq_true rfl, Nat.le_of_ble_eq_true rfl⟩ k123 (by decide) rfl (Nat.le_of_ble_eq_true rfl) (dk zX11_manyOf 53 rfl) ?_
      refine hc8t.mono ?_
      rintro _ m9 ⟨r10, rfl, hm9⟩
      show Ex E MX11_manyOf Q 99 [(0, .ref 123), (1, .int x1), (2, .int x2), (3, .int x3), (4, .int x4), (5, .int x5), (6, .int x6), (7, .int x7), (8, .int v5)] [.int r10, .int x5, .int x6, .ref 123] m9
      refine x_iconst (v := 1) (by decide) (dk zX11_manyOf 54 rfl) ?_
      refine x_callV (as := [.int x6, .int x5, .int r10, .int 1]) (o := 123) (ci := 11) (st := []) rfl okRX11_295 npX11_follows ⟨Nat.le_of_ble_eq_true rfl, Nat.le_of_ble_eq_true rfl⟩ k123 (by decide) rfl (Nat.le_of_ble_eq_true rfl) (dk zX11_manyOf 55 rfl) ?_
      refine hm9.mono ?_
      rintro _ m11 ⟨rfl, hm11⟩
      show Ex E MX11_manyOf Q 103 [(0, .ref 123), (1, .int x1), (2, .int x2), (3, .int x3), (4, .int x4), (5, .int x5), (6, .int x6), (7, .int x7), (8, .int v5)] [] m11
      refine x_aload_n 0 rfl rfl (dk zX11_manyOf 56 rfl) ?_
      refine x_iload 8 rfl (dk zX11_manyOf 57 rfl) ?_
      refine x_callV (as := [.int v5]) (o := 123) (ci := 11) (st := []) rfl okRX11_202 npX11_end ⟨Nat.le_of_ble_eq_true rfl, Nat.le_of_ble_eq_true rfl⟩ k123 (by decide) rfl (Nat.le_of_ble_eq_true rfl) (dk zX11_manyOf 58 rfl) ?_
      refine hm11.mono ?_
      rintro _ m12 ⟨r13, rfl, hm12⟩
      show Ex E MX11_manyOf Q 109 [(0, .ref 123), (1, .int x1), (2, .int x2), (3, .int x3), (4, .int x4), (5, .int x5), (6, .int x6), (7, .int x7), (8, .int v5)] [.int r13] m12
      refine x_istoreG (l' := [(0, .ref 123), (1, .int x1), (2, .int x2), (3, .int x3), (4, .int x4), (5, .int r13), (6, .int x6), (7, .int x7), (8, .int v5)]) [1, 2, 3, 4, 5, 0, 6, 7, 8] rfl (by decide) (dk zX11_manyOf 59 rfl) ?_
      refine x_iload 8 rfl (dk zX11_manyOf 60 rfl) ?_
      refine x_callS (as := [.int v5]) (st := []) rfl okRX11_177 npX11_back ⟨Nat.le_of_ble_eq_true rfl, Nat.le_of_ble_eq_true rfl⟩ (Nat.le_of_ble_eq_true rfl) (dk zX11_manyOf 61 rfl) ?_
      refine hm12.mono ?_
      rintro _ m14 ⟨r15, rfl, hm14⟩
      show Ex E MX11_manyOf Q 116 [(0, .ref 123), (1, .int x1), (2, .int x2), (3, .int x3), (4, .int x4), (5, .int r13), (6, .int x6), (7, .int x7), (8, .int v5)] [.int r15] m14
      refine x_istoreG (l' := [(0, .ref 123), (1, .int x1), (2, .int x2), (3, .int x3), (4, .int x4), (5, .int r13), (6, .int r15), (7, .int x7), (8, .int v5)]) [1, 2, 3, 4, 5, 6, 0, 7, 8] rfl (by decide) (dk zX11_manyOf 62 rfl) ?_
      obtain ⟨v16, ev16⟩ : ∃ y : Int32, y = x7 + 1 := ⟨_, rfl⟩
      have hv16 := hm14 v16 ev16
      refine x_iinc (v := v16) (l' := [(0, .ref 123), (1, .int x1), (2, .int x2), (3, .int x3), (4, .int x4), (5, .int r13), (6, .int r15), (7, .int v16), (8, .int v5)]) 7 rfl (by rw [ev16]; rfl) [1, 2, 3, 4, 5, 6, 7, 0, 8] rfl (by decide) (dk zX11_manyOf 63 rfl) ?_
      refine x_goto (tgt := 55) (by decide) (dk zX11_manyOf 64 rfl) ?_
      exact x_sub [0, 1, 2, 3, 4, 5, 6, 7] rfl hv16
    · have hc8f := hm6.2 c8
      refine x_lconst (v := 0) (by decide) (dk zX11_manyOf 46 rfl) ?_
      exact x_lret rfl (dk zX11_manyOf 47 rfl) hc8f
set_option maxRecDepth 20000 in
set_option maxHeartbeats 2000000 in
theorem gX11_many_0 {E : EV} {Q : Po} {μ : Mem} {x1 : Int32} {x2 : Int32} {x3 : Int32} {x4 : Int32} (h : Sp E MX11_isTown [.int x1] μ (fun v m1 => ∃ r2 : Int32, v = some (.int r2) ∧ ((r2 = 0 → Sp E MX11_no [.int ((-2))] m1 (fun v m4 => ∃ r5 : Int64, v = some (.long r5) ∧ Q (some (.long r5)) m4)) ∧ (¬ r2 = 0 → Sp E MX11_isWay [.int x2] m1 (fun v m6 => ∃ r7 : Int32, v = some (.int r7) ∧ ((r7 = 0 → Sp E MX11_no [.int ((-2))] m6 (fun v m9 => ∃ r10 : Int64, v = some (.long r10) ∧ Q (some (.long r10)) m9)) ∧ (¬ r7 = 0 → Sp E MX11_isTown [.int x3] m6 (fun v m11 => ∃ r12 : Int32, v = some (.int r12) ∧ ((r12 = 0 → Sp E MX11_no [.int ((-2))] m11 (fun v m14 => ∃ r15 : Int64, v = some (.long r15) ∧ Q (some (.long r15)) m14)) ∧ (¬ r12 = 0 → Sp E MX11_in [.long (Int32.toInt64 x4), .long 0, .long ((12))] m11 (fun v m16 => ∃ r17 : Int32, v = some (.int r17) ∧ ((r17 = 0 → Sp E MX11_no [.int ((-2))] m16 (fun v m19 => ∃ r20 : Int64, v = some (.long r20) ∧ Q (some (.long r20)) m19)) ∧ (¬ r17 = 0 → Sp E MX11_manyOf [.ref 123, .int x1, .int x2, .int x3, .int x4] m16 (fun v m21 => ∃ r22 : Int64, v = some (.long r22) ∧ Q (some (.long r22)) m21)))))))))))))) : Ex E MX11_many Q 0 [(0, .ref 123), (1, .int x1), (2, .int x2), (3, .int x3), (4, .int x4)] [] μ := by
  refine x_iload_n 1 rfl rfl (dk zX11_many 0 rfl) ?_
  refine x_callS (as := [.int x1]) (st := []) rfl okRX11_148 npX11_isTown ⟨Nat.le_of_ble_eq_true rfl, Nat.le_of_ble_eq_true rfl⟩ (Nat.le_of_ble_eq_true rfl) (dk zX11_many 1 rfl) ?_
  refine h.mono ?_
  rintro _ m1 ⟨r2, rfl, hm1⟩
  show Ex E MX11_many Q 4 [(0, .ref 123), (1, .int x1), (2, .int x2), (3, .int x3), (4, .int x4)] [.int r2] m1
  refine x_if_eq (tgt := 46) (by decide) (dk zX11_many 2 rfl) (fun c3 => ?_) (fun c3 => ?_)
  · have hc3t := hm1.1 c3
    refine x_bipush (v := -2) (by decide) (dk zX11_many 22 rfl) ?_
    refine x_callS (as := [.int ((-2))]) (st := []) rfl okRX11_263 npX11_no ⟨Nat.le_of_ble_eq_true rfl, Nat.le_of_ble_eq_true rfl⟩ (Nat.le_of_ble_eq_true rfl) (dk zX11_many 23 rfl) ?_
    refine hc3t.mono ?_
    rintro _ m4 ⟨r5, rfl, hm4⟩
    show Ex E MX11_many Q 51 [(0, .ref 123), (1, .int x1), (2, .int x2), (3, .int x3), (4, .int x4)] [.long r5] m4
    exact x_lret rfl (dk zX11_many 24 rfl) hm4
  · have hc3f := hm1.2 c3
    refine x_iload_n 2 rfl rfl (dk zX11_many 3 rfl) ?_
    refine x_callS (as := [.int x2]) (st := []) rfl okRX11_193 npX11_isWay ⟨Nat.le_of_ble_eq_true rfl, Nat.le_of_ble_eq_true rfl⟩ (Nat.le_of_ble_eq_true rfl) (dk zX11_many 4 rfl) ?_
    refine hc3f.mono ?_
    rintro _ m6 ⟨r7, rfl, hm6⟩
    show Ex E MX11_many Q 11 [(0, .ref 123), (1, .int x1), (2, .int x2), (3, .int x3), (4, .int x4)] [.int r7] m6
    refine x_if_eq (tgt := 46) (by decide) (dk zX11_many 5 rfl) (fun c8 => ?_) (fun c8 => ?_)
    · have hc8t := hm6.1 c8
      refine x_bipush (v := -2) (by decide) (dk zX11_many 22 rfl) ?_
      refine x_callS (as := [.int ((-2))]) (st := []) rfl okRX11_263 npX11_no ⟨Nat.le_of_ble_eq_true rfl, Nat.le_of_ble_eq_true rfl⟩ (Nat.le_of_ble_eq_true rfl) (dk zX11_many 23 rfl) ?_
      refine hc8t.mono ?_
      rintro _ m9 ⟨r10, rfl, hm9⟩
      show Ex E MX11_many Q 51 [(0, .ref 123), (1, .int x1), (2, .int x2), (3, .int x3), (4, .int x4)] [.long r10] m9
      exact x_lret rfl (dk zX11_many 24 rfl) hm9
    · have hc8f := hm6.2 c8
      refine x_iload_n 3 rfl rfl (dk zX11_many 6 rfl) ?_
      refine x_callS (as := [.int x3]) (st := []) rfl okRX11_148 npX11_isTown ⟨Nat.le_of_ble_eq_true rfl, Nat.le_of_ble_eq_true rfl⟩ (Nat.le_of_ble_eq_true rfl) (dk zX11_many 7 rfl) ?_
      refine hc8f.mono ?_
      rintro _ m11 ⟨r12, rfl, hm11⟩
      show Ex E MX11_many Q 18 [(0, .ref 123), (1, .int x1), (2, .int x2), (3, .int x3), (4, .int x4)] [.int r12] m11
      refine x_if_eq (tgt := 46) (by decide) (dk zX11_many 8 rfl) (fun c13 => ?_) (fun c13 => ?_)
      · have hc13t := hm11.1 c13
        refine x_bipush (v := -2) (by decide) (dk zX11_many 22 rfl) ?_
        refine x_callS (as := [.int ((-2))]) (st := []) rfl okRX11_263 npX11_no ⟨Nat.le_of_ble_eq_true rfl, Nat.le_of_ble_eq_true rfl⟩ (Nat.le_of_ble_eq_true rfl) (dk zX11_many 23 rfl) ?_
        refine hc13t.mono ?_
        rintro _ m14 ⟨r15, rfl, hm14⟩
        show Ex E MX11_many Q 51 [(0, .ref 123), (1, .int x1), (2, .int x2), (3, .int x3), (4, .int x4)] [.long r15] m14
        exact x_lret rfl (dk zX11_many 24 rfl) hm14
      · have hc13f := hm11.2 c13
        refine x_iload 4 rfl (dk zX11_many 9 rfl) ?_
        refine x_i2l (dk zX11_many 10 rfl) ?_
        refine x_lconst (v := 0) (by decide) (dk zX11_many 11 rfl) ?_
        refine x_ldc2 (v := 12) rfl wkRX11_298 (dk zX11_many 12 rfl) ?_
        refine x_callS (as := [.long (Int32.toInt64 x4), .long 0, .long ((12))]) (st := []) rfl okRX11_86 npX11_in ⟨Nat.le_of_ble_eq_true rfl, Nat.le_of_ble_eq_true rfl⟩ (Nat.le_of_ble_eq_true rfl) (dk zX11_many 13 rfl) ?_
        refine hc13f.mono ?_
        rintro _ m16 ⟨r17, rfl, hm16⟩
        show Ex E MX11_many Q 31 [(0, .ref 123), (1, .int x1), (2, .int x2), (3, .int x3), (4, .int x4)] [.int r17] m16
        refine x_if_eq (tgt := 46) (by decide) (dk zX11_many 14 rfl) (fun c18 => ?_) (fun c18 => ?_)
        · have hc18t := hm16.1 c18
          refine x_bipush (v := -2) (by decide) (dk zX11_many 22 rfl) ?_
          refine x_callS (as := [.int ((-2))]) (st := []) rfl okRX11_263 npX11_no ⟨Nat.le_of_ble_eq_true rfl, Nat.le_of_ble_eq_true rfl⟩ (Nat.le_of_ble_eq_true rfl) (dk zX11_many 23 rfl) ?_
          refine hc18t.mono ?_
          rintro _ m19 ⟨r20, rfl, hm19⟩
          show Ex E MX11_many Q 51 [(0, .ref 123), (1, .int x1), (2, .int x2), (3, .int x3), (4, .int x4)] [.long r20] m19
          exact x_lret rfl (dk zX11_many 24 rfl) hm19
        · have hc18f := hm16.2 c18
          refine x_aload_n 0 rfl rfl (dk zX11_many 15 rfl) ?_
          refine x_iload_n 1 rfl rfl (dk zX11_many 16 rfl) ?_
          refine x_iload_n 2 rfl rfl (dk zX11_many 17 rfl) ?_
          refine x_iload_n 3 rfl rfl (dk zX11_many 18 rfl) ?_
          refine x_iload 4 rfl (dk zX11_many 19 rfl) ?_
          refine x_callV (as := [.int x1, .int x2, .int x3, .int x4]) (o := 123) (ci := 11) (st := []) rfl okRX11_300 npX11_manyOf ⟨Nat.le_of_ble_eq_true rfl, Nat.le_of_ble_eq_true rfl⟩ k123 (by decide) rfl (Nat.le_of_ble_eq_true rfl) (dk zX11_many 20 rfl) ?_
          refine hc18f.mono ?_
          rintro _ m21 ⟨r22, rfl, hm21⟩
          show Ex E MX11_many Q 43 [(0, .ref 123), (1, .int x1), (2, .int x2), (3, .int x3), (4, .int x4)] [.long r22] m21
          refine x_goto (tgt := 51) (by decide) (dk zX11_many 21 rfl) ?_
          exact x_lret rfl (dk zX11_many 24 rfl) hm21
set_option maxRecDepth 20000 in
set_option maxHeartbeats 2000000 in
theorem gX11_lists_0 {E : EV} {Q : Po} {μ : Mem} {x1 : Int32} (h : ((¬ (μ.1 123 28) = 12 → Ex E MX11_lists Q 14 [(0, .ref 123), (1, .int x1), (2, .int 0)] [] μ) ∧ ((μ.1 123 28) = 12 → Q (some (.int ((-4)))) μ))) : Ex E MX11_lists Q 0 [(0, .ref 123), (1, .int x1)] [] μ := by
  refine x_aload_n 0 rfl rfl (dk zX11_lists 0 rfl) ?_
  refine gf11_28 rfl k123 (dk zX11_lists 1 rfl) ?_
  refine x_bipush (v := 12) (by decide) (dk zX11_lists 2 rfl) ?_
  refine x_icmp_ne (tgt := 12) (by decide) (dk zX11_lists 3 rfl) (fun c1 => ?_) (fun c1 => ?_)
  · have hc1t := h.1 c1
    refine x_iconst (v := 0) (by decide) (dk zX11_lists 6 rfl) ?_
    refine x_istore_n (k := 2) (l' := [(0, .ref 123), (1, .int x1), (2, .int 0)]) [1, 2, 0] rfl rfl (by decide) (dk zX11_lists 7 rfl) ?_
    exact hc1t
  · have hc1f := h.2 c1
    refine x_bipush (v := -4) (by decide) (dk zX11_lists 4 rfl) ?_
    exact x_iret (ty := .int) rfl rfl (dk zX11_lists 5 rfl) hc1f
set_option maxRecDepth 20000 in
set_option maxHeartbeats 2000000 in
theorem gX11_lists_14 {E : EV} {Q : Po} {μ : Mem} {x1 : Int32} {x2 : Int32} (h : (((μ.1 134 0) ≤ x2 → ∀ v2 : Int32, v2 = μ.1 134 0 → vp_in (μ.1 123 28) 12 ∧ (vp_in ((mI μ 143 ((μ.1 123 28).toNatClampNeg) v2).1 123 28) 12 ∧ ((x1 = 0 ∨ x1 = 1) ∧ (∀ v6 : Int32, v6 = ((mI (mI μ 143 ((μ.1 123 28).toNatClampNeg) v2) 144 (((mI μ 143 ((μ.1 123 28).toNatClampNeg) v2).1 123 28).toNatClampNeg) x1).1 123 28) + 1 → Q (some (.int ((mI (mI (mI μ 143 ((μ.1 123 28).toNatClampNeg) v2) 144 (((mI μ 143 ((μ.1 123 28).toNatClampNeg) v2).1 123 28).toNatClampNeg) x1) 123 28 v6).1 123 28))) (mI (mI (mI μ 143 ((μ.1 123 28).toNatClampNeg) v2) 144 (((mI μ 143 ((μ.1 123 28).toNatClampNeg) v2).1 123 28).toNatClampNeg) x1) 123 28 v6))))) ∧ (¬ (μ.1 134 0) ≤ x2 → vp_in x2 120 ∧ (Sp E MX11_byteOf [.int (μ.1 133 x2.toNatClampNeg)] μ (fun v m8 => ∃ r9 : Int32, v = some (.int r9) ∧ vp_in ((60 * (μ.1 123 28)) + x2) 720 ∧ (∀ v11 : Int32, v11 = x2 + 1 → Ex E MX11_lists Q 14 [(0, .ref 123), (1, .int x1), (2, .int v11)] [] (mI m8 142 (((60 * (μ.1 123 28)) + x2).toNatClampNeg) r9))))))) : Ex E MX11_lists Q 14 [(0, .ref 123), (1, .int x1), (2, .int x2)] [] μ := by
  refine x_iload_n 2 rfl rfl (dk zX11_lists 8 rfl) ?_
  refine x_aload_n 0 rfl rfl (dk zX11_lists 9 rfl) ?_
  refine gf11_15 (r := 134) rfl k123 r123_15 (dk zX11_lists 10 rfl) ?_
  refine x_iconst (v := 0) (by decide) (dk zX11_lists 11 rfl) ?_
  refine y_iald (j := 0) k134 l134 (by unfold vp_in; decide) (by decide) (dk zX11_lists 12 rfl) ?_
  refine x_icmp_ge (tgt := 53) (by decide) (dk zX11_lists 13 rfl) (fun c1 => ?_) (fun c1 => ?_)
  · have hc1t := h.1 c1
    refine x_aload_n 0 rfl rfl (dk zX11_lists 30 rfl) ?_
    refine gf11_30 (r := 143) rfl k123 r123_30 (dk zX11_lists 31 rfl) ?_
    refine x_aload_n 0 rfl rfl (dk zX11_lists 32 rfl) ?_
    refine gf11_28 rfl k123 (dk zX11_lists 33 rfl) ?_
    refine x_aload_n 0 rfl rfl (dk zX11_lists 34 rfl) ?_
    refine gf11_15 (r := 134) rfl k123 r123_15 (dk zX11_lists 35 rfl) ?_
    refine x_iconst (v := 0) (by decide) (dk zX11_lists 36 rfl) ?_
    refine y_iald (j := 0) k134 l134 (by unfold vp_in; decide) (by decide) (dk zX11_lists 37 rfl) ?_
    refine x_topi (fun v2 ev2 => ?_)
    have hv2 := hc1t v2 ev2
    have b3 := hv2.1
    have hb3 := hv2.2
    refine y_iast (j := (μ.1 123 28).toNatClampNeg) k143 l143 b3 rfl (dk zX11_lists 38 rfl) ?_
    refine x_aload_n 0 rfl rfl (dk zX11_lists 39 rfl) ?_
    refine gf11_31 (r := 144) rfl k123 r123_31 (dk zX11_lists 40 rfl) ?_
    refine x_aload_n 0 rfl rfl (dk zX11_lists 41 rfl) ?_
    refine gf11_28 rfl k123 (dk zX11_lists 42 rfl) ?_
    refine x_iload_n 1 rfl rfl (dk zX11_lists 43 rfl) ?_
    have b4 := hb3.1
    have hb4 := hb3.2
    have b5 := hb4.1
    have hb5 := hb4.2
    refine y_zast (j := ((mI μ 143 ((μ.1 123 28).toNatClampNeg) v2).1 123 28).toNatClampNeg) k144 l144 b4 rfl b5 (dk zX11_lists 44 rfl) ?_
    refine x_aload_n 0 rfl rfl (dk zX11_lists 45 rfl) ?_
    refine x_dupr (dk zX11_lists 46 rfl) ?_
    refine gf11_28 rfl k123 (dk zX11_lists 47 rfl) ?_
    refine x_iconst (v := 1) (by decide) (dk zX11_lists 48 rfl) ?_
    refine x_iadd (dk zX11_lists 49 rfl) ?_
    refine x_topi (fun v6 ev6 => ?_)
    have hv6 := hb5 v6 ev6
    refine pf11_28 rfl k123 (dk zX11_lists 50 rfl) ?_
    refine x_aload_n 0 rfl rfl (dk zX11_lists 51 rfl) ?_
    refine gf11_28 rfl k123 (dk zX11_lists 52 rfl) ?_
    exact x_iret (ty := .int) rfl rfl (dk zX11_lists 53 rfl) hv6
  · have hc1f := h.2 c1
    refine x_aload_n 0 rfl rfl (dk zX11_lists 14 rfl) ?_
    refine gf11_29 (r := 142) rfl k123 r123_29 (dk zX11_lists 15 rfl) ?_
    refine x_bipush (v := 60) (by decide) (dk zX11_lists 16 rfl) ?_
    refine x_aload_n 0 rfl rfl (dk zX11_lists 17 rfl) ?_
    refine gf11_28 rfl k123 (dk zX11_lists 18 rfl) ?_
    refine x_imul (dk zX11_lists 19 rfl) ?_
    refine x_iload_n 2 rfl rfl (dk zX11_lists 20 rfl) ?_
    refine x_iadd (dk zX11_lists 21 rfl) ?_
    refine x_aload_n 0 rfl rfl (dk zX11_lists 22 rfl) ?_
    refine gf11_14 (r := 133) rfl k123 r123_14 (dk zX11_lists 23 rfl) ?_
    refine x_iload_n 2 rfl rfl (dk zX11_lists 24 rfl) ?_
    have b7 := hc1f.1
    have hb7 := hc1f.2
    refine y_iald (j := x2.toNatClampNeg) k133 l133 b7 rfl (dk zX11_lists 25 rfl) ?_
    refine x_callS (as := [.int (μ.1 133 x2.toNatClampNeg)]) (st := [.int ((60 * (μ.1 123 28)) + x2), .ref 142]) rfl okRX11_199 npX11_byteOf ⟨Nat.le_of_ble_eq_true rfl, Nat.le_of_ble_eq_true rfl⟩ (Nat.le_of_ble_eq_true rfl) (dk zX11_lists 26 rfl) ?_
    refine hb7.mono ?_
    rintro _ m8 ⟨r9, rfl, hm8⟩
    show Ex E MX11_lists Q 46 [(0, .ref 123), (1, .int x1), (2, .int x2)] [.int r9, .int ((60 * (μ.1 123 28)) + x2), .ref 142] m8
    have b10 := hm8.1
    have hb10 := hm8.2
    refine y_iast (j := ((60 * (μ.1 123 28)) + x2).toNatClampNeg) k142 l142 b10 rfl (dk zX11_lists 27 rfl) ?_
    obtain ⟨v11, ev11⟩ : ∃ y : Int32, y = x2 + 1 := ⟨_, rfl⟩
    have hv11 := hb10 v11 ev11
    refine x_iinc (v := v11) (l' := [(0, .ref 123), (1, .int x1), (2, .int v11)]) 2 rfl (by rw [ev11]; rfl) [1, 2, 0] rfl (by decide) (dk zX11_lists 28 rfl) ?_
    refine x_goto (tgt := 14) (by decide) (dk zX11_lists 29 rfl) ?_
    exact hv11
set_option maxRecDepth 20000 in
set_option maxHeartbeats 2000000 in
theorem gX11_list_0 {E : EV} {Q : Po} {μ : Mem} {x1 : Int32} {x2 : Int32} (h : Sp E MX11_isWay [.int x1] μ (fun v m1 => ∃ r2 : Int32, v = some (.int r2) ∧ ((r2 = 0 → Q (some (.int ((-2)))) m1) ∧ (¬ r2 = 0 → Sp E MX11_isTwo [.int x2] m1 (fun v m4 => ∃ r5 : Int32, v = some (.int r5) ∧ ((¬ r5 = 0 → Sp E MX11_findPaper [.ref 123, .int 0, .int x1] m4 (fun v m7 => v = none ∧ ((¬ x2 = 1 → Sp E MX11_lists [.ref 123, .int 0] m7 (fun v m9 => ∃ r10 : Int32, v = some (.int r10) ∧ Q (some (.int r10)) m9)) ∧ (x2 = 1 → Sp E MX11_lists [.ref 123, .int 1] m7 (fun v m11 => ∃ r12 : Int32, v = some (.int r12) ∧ Q (some (.int r12)) m11))))) ∧ (r5 = 0 → Q (some (.int ((-2)))) m4))))))) : Ex E MX11_list Q 0 [(0, .ref 123), (1, .int x1), (2, .int x2)] [] μ := by
  refine x_iload_n 1 rfl rfl (dk zX11_list 0 rfl) ?_
  refine x_callS (as := [.int x1]) (st := []) rfl okRX11_193 npX11_isWay ⟨Nat.le_of_ble_eq_true rfl, Nat.le_of_ble_eq_true rfl⟩ (Nat.le_of_ble_eq_true rfl) (dk zX11_list 1 rfl) ?_
  refine h.mono ?_
  rintro _ m1 ⟨r2, rfl, hm1⟩
  show Ex E MX11_list Q 4 [(0, .ref 123), (1, .int x1), (2, .int x2)] [.int r2] m1
  refine x_if_eq (tgt := 14) (by decide) (dk zX11_list 2 rfl) (fun c3 => ?_) (fun c3 => ?_)
  · have hc3t := hm1.1 c3
    refine x_bipush (v := -2) (by decide) (dk zX11_list 6 rfl) ?_
    exact x_iret (ty := .int) rfl rfl (dk zX11_list 7 rfl) hc3t
  · have hc3f := hm1.2 c3
    refine x_iload_n 2 rfl rfl (dk zX11_list 3 rfl) ?_
    refine x_callS (as := [.int x2]) (st := []) rfl okRX11_256 npX11_isTwo ⟨Nat.le_of_ble_eq_true rfl, Nat.le_of_ble_eq_true rfl⟩ (Nat.le_of_ble_eq_true rfl) (dk zX11_list 4 rfl) ?_
    refine hc3f.mono ?_
    rintro _ m4 ⟨r5, rfl, hm4⟩
    show Ex E MX11_list Q 11 [(0, .ref 123), (1, .int x1), (2, .int x2)] [.int r5] m4
    refine x_if_ne (tgt := 17) (by decide) (dk zX11_list 5 rfl) (fun c6 => ?_) (fun c6 => ?_)
    · have hc6t := hm4.1 c6
      refine x_aload_n 0 rfl rfl (dk zX11_list 8 rfl) ?_
      refine x_iconst (v := 0) (by decide) (dk zX11_list 9 rfl) ?_
      refine x_iload_n 1 rfl rfl (dk zX11_list 10 rfl) ?_
      refine x_callV (as := [.int 0, .int x1]) (o := 123) (ci := 11) (st := []) rfl okRX11_196 npX11_findPaper ⟨Nat.le_of_ble_eq_true rfl, Nat.le_of_ble_eq_true rfl⟩ k123 (by decide) rfl (Nat.le_of_ble_eq_true rfl) (dk zX11_list 11 rfl) ?_
      refine hc6t.mono ?_
      rintro _ m7 ⟨rfl, hm7⟩
      show Ex E MX11_list Q 23 [(0, .ref 123), (1, .int x1), (2, .int x2)] [] m7
      refine x_aload_n 0 rfl rfl (dk zX11_list 12 rfl) ?_
      refine x_iload_n 2 rfl rfl (dk zX11_list 13 rfl) ?_
      refine x_iconst (v := 1) (by decide) (dk zX11_list 14 rfl) ?_
      refine x_icmp_ne (tgt := 33) (by decide) (dk zX11_list 15 rfl) (fun c8 => ?_) (fun c8 => ?_)
      · have hc8t := hm7.1 c8
        refine x_iconst (v := 0) (by decide) (dk zX11_list 18 rfl) ?_
        refine x_callV (as := [.int 0]) (o := 123) (ci := 11) (st := []) rfl okRX11_307 npX11_lists ⟨Nat.le_of_ble_eq_true rfl, Nat.le_of_ble_eq_true rfl⟩ k123 (by decide) rfl (Nat.le_of_ble_eq_true rfl) (dk zX11_list 19 rfl) ?_
        refine hc8t.mono ?_
        rintro _ m9 ⟨r10, rfl, hm9⟩
        show Ex E MX11_list Q 37 [(0, .ref 123), (1, .int x1), (2, .int x2)] [.int r10] m9
        exact x_iret (ty := .int) rfl rfl (dk zX11_list 20 rfl) hm9
      · have hc8f := hm7.2 c8
        refine x_iconst (v := 1) (by decide) (dk zX11_list 16 rfl) ?_
        refine x_goto (tgt := 34) (by decide) (dk zX11_list 17 rfl) ?_
        refine x_callV (as := [.int 1]) (o := 123) (ci := 11) (st := []) rfl okRX11_307 npX11_lists ⟨Nat.le_of_ble_eq_true rfl, Nat.le_of_ble_eq_true rfl⟩ k123 (by decide) rfl (Nat.le_of_ble_eq_true rfl) (dk zX11_list 19 rfl) ?_
        refine hc8f.mono ?_
        rintro _ m11 ⟨r12, rfl, hm11⟩
        show Ex E MX11_list Q 37 [(0, .ref 123), (1, .int x1), (2, .int x2)] [.int r12] m11
        exact x_iret (ty := .int) rfl rfl (dk zX11_list 20 rfl) hm11
    · have hc6f := hm4.2 c6
      refine x_bipush (v := -2) (by decide) (dk zX11_list 6 rfl) ?_
      exact x_iret (ty := .int) rfl rfl (dk zX11_list 7 rfl) hc6f
set_option maxRecDepth 20000 in
set_option maxHeartbeats 2000000 in
theorem gX11_read_0 {E : EV} {Q : Po} {μ : Mem} {x1 : Int32} (h : Sp E MX11_isSheet [.int x1] μ (fun v m1 => ∃ r2 : Int32, v = some (.int r2) ∧ ((¬ r2 = 0 → vp_in x1 4 ∧ (((0 ≤ (m1.1 124 x1.toNatClampNeg) → Sp E MX11_findPaper [.ref 123, .int 0, .int 0] m1 (fun v m6 => v = none ∧ Ex E MX11_read Q 35 [(0, .ref 123), (1, .int x1), (2, .int 0), (3, .int 0)] [] m6)) ∧ (¬ 0 ≤ (m1.1 124 x1.toNatClampNeg) → Sp E MX11_met [.ref 123, .int 1] m1 (fun v m7 => ∃ r8 : Int32, v = some (.int r8) ∧ Q (some (.int r8)) m7))))) ∧ (r2 = 0 → Q (some (.int ((-2)))) m1)))) : Ex E MX11_read Q 0 [(0, .ref 123), (1, .int x1)] [] μ := by
  refine x_iload_n 1 rfl rfl (dk zX11_read 0 rfl) ?_
  refine x_callS (as := [.int x1]) (st := []) rfl okRX11_98 npX11_isSheet ⟨Nat.le_of_ble_eq_true rfl, Nat.le_of_ble_eq_true rfl⟩ (Nat.le_of_ble_eq_true rfl) (dk zX11_read 1 rfl) ?_
  refine h.mono ?_
  rintro _ m1 ⟨r2, rfl, hm1⟩
  show Ex E MX11_read Q 4 [(0, .ref 123), (1, .int x1)] [.int r2] m1
  refine x_if_ne (tgt := 10) (by decide) (dk zX11_read 2 rfl) (fun c3 => ?_) (fun c3 => ?_)
  · have hc3t := hm1.1 c3
    refine x_aload_n 0 rfl rfl (dk zX11_read 5 rfl) ?_
    refine gf11_0 (r := 124) rfl k123 r123_0 (dk zX11_read 6 rfl) ?_
    refine x_iload_n 1 rfl rfl (dk zX11_read 7 rfl) ?_
    have b4 := hc3t.1
    have hb4 := hc3t.2
    refine y_iald (j := x1.toNatClampNeg) k124 l124 b4 rfl (dk zX11_read 8 rfl) ?_
    refine x_if_ge (tgt := 25) (by decide) (dk zX11_read 9 rfl) (fun c5 => ?_) (fun c5 => ?_)
    · have hc5t := hb4.1 c5
      refine x_aload_n 0 rfl rfl (dk zX11_read 14 rfl) ?_
      refine x_iconst (v := 0) (by decide) (dk zX11_read 15 rfl) ?_
      refine x_iconst (v := 0) (by decide) (dk zX11_read 16 rfl) ?_
      refine x_callV (as := [.int 0, .int 0]) (o := 123) (ci := 11) (st := []) rfl okRX11_196 npX11_findPaper ⟨Nat.le_of_ble_eq_true rfl, Nat.le_of_ble_eq_true rfl⟩ k123 (by decide) rfl (Nat.le_of_ble_eq_true rfl) (dk zX11_read 17 rfl) ?_
      refine hc5t.mono ?_
      rintro _ m6 ⟨rfl, hm6⟩
      show Ex E MX11_read Q 31 [(0, .ref 123), (1, .int x1)] [] m6
      refine x_iconst (v := 0) (by decide) (dk zX11_read 18 rfl) ?_
      refine x_istore_n (k := 2) (l' := [(0, .ref 123), (1, .int x1), (2, .int 0)]) [1, 2, 0] rfl rfl (by decide) (dk zX11_read 19 rfl) ?_
      refine x_iconst (v := 0) (by decide) (dk zX11_read 20 rfl) ?_
      refine x_istore_n (k := 3) (l' := [(0, .ref 123), (1, .int x1), (2, .int 0), (3, .int 0)]) [1, 2, 3, 0] rfl rfl (by decide) (dk zX11_read 21 rfl) ?_
      exact hm6
    · have hc5f := hb4.2 c5
      refine x_aload_n 0 rfl rfl (dk zX11_read 10 rfl) ?_
      refine x_iconst (v := 1) (by decide) (dk zX11_read 11 rfl) ?_
      refine x_callV (as := [.int 1]) (o := 123) (ci := 11) (st := []) rfl okRX11_104 npX11_met ⟨Nat.le_of_ble_eq_true rfl, Nat.le_of_ble_eq_true rfl⟩ k123 (by decide) rfl (Nat.le_of_ble_eq_true rfl) (dk zX11_read 12 rfl) ?_
      refine hc5f.mono ?_
      rintro _ m7 ⟨r8, rfl, hm7⟩
      show Ex E MX11_read Q 24 [(0, .ref 123), (1, .int x1)] [.int r8] m7
      exact x_iret (ty := .int) rfl rfl (dk zX11_read 13 rfl) hm7
  · have hc3f := hm1.2 c3
    refine x_bipush (v := -2) (by decide) (dk zX11_read 3 rfl) ?_
    exact x_iret (ty := .int) rfl rfl (dk zX11_read 4 rfl) hc3f
set_option maxRecDepth 20000 in
set_option maxHeartbeats 2000000 in
theorem gX11_read_35 {E : EV} {Q : Po} {μ : Mem} {x1 : Int32} {x2 : Int32} {x3 : Int32} (h : vp_in x1 4 ∧ ((((μ.1 125 x1.toNatClampNeg) < x3 → Q (some (.int x2)) μ) ∧ (¬ (μ.1 125 x1.toNatClampNeg) < x3 → (((μ.1 125 x1.toNatClampNeg) ≤ x3 → Sp E MX11_lists [.ref 123, .int 1] μ (fun v m4 => ∃ r5 : Int32, v = some (.int r5) ∧ ((r5 ≤ 0 → ∀ v7 : Int32, v7 = x2 + 0 → ∀ v8 : Int32, v8 = x3 + 1 → Ex E MX11_read Q 35 [(0, .ref 123), (1, .int x1), (2, .int v7), (3, .int v8)] [] (mI m4 134 0 0)) ∧ (¬ r5 ≤ 0 → ∀ v9 : Int32, v9 = x2 + 1 → ∀ v10 : Int32, v10 = x3 + 1 → Ex E MX11_read Q 35 [(0, .ref 123), (1, .int x1), (2, .int v9), (3, .int v10)] [] (mI m4 134 0 0))))) ∧ (¬ (μ.1 125 x1.toNatClampNeg) ≤ x3 → vp_in ((60 * x1) + x3) 240 ∧ (Sp E MX11_letterOf [.ref 123, .int (μ.1 126 (((60 * x1) + x3).toNatClampNeg))] μ (fun v m12 => ∃ r13 : Int32, v = some (.int r13) ∧ ((r13 = ((-1)) → Sp E MX11_lists [.ref 123, .int 1] m12 (fun v m15 => ∃ r16 : Int32, v = some (.int r16) ∧ ((r16 ≤ 0 → ∀ v18 : Int32, v18 = x2 + 0 → ∀ v19 : Int32, v19 = x3 + 1 → Ex E MX11_read Q 35 [(0, .ref 123), (1, .int x1), (2, .int v18), (3, .int v19)] [] (mI m15 134 0 0)) ∧ (¬ r16 ≤ 0 → ∀ v20 : Int32, v20 = x2 + 1 → ∀ v21 : Int32, v21 = x3 + 1 → Ex E MX11_read Q 35 [(0, .ref 123), (1, .int x1), (2, .int v20), (3, .int v21)] [] (mI m15 134 0 0))))) ∧ (¬ r13 = ((-1)) → Sp E MX11_stamp [.ref 123, .int 0, .int r13] m12 (fun v m22 => v = none ∧ ∀ v23 : Int32, v23 = x3 + 1 → Ex E MX11_read Q 35 [(0, .ref 123), (1, .int x1), (2, .int x2), (3, .int v23)] [] m22))))))))))) : Ex E MX11_read Q 35 [(0, .ref 123), (1, .int x1), (2, .int x2), (3, .int x3)] [] μ := by
  refine x_iload_n 3 rfl rfl (dk zX11_read 22 rfl) ?_
  refine x_aload_n 0 rfl rfl (dk zX11_read 23 rfl) ?_
  refine gf11_1 (r := 125) rfl k123 r123_1 (dk zX11_read 24 rfl) ?_
  refine x_iload_n 1 rfl rfl (dk zX11_read 25 rfl) ?_
  have b1 := h.1
  have hb1 := h.2
  refine y_iald (j := x1.toNatClampNeg) k125 l125 b1 rfl (dk zX11_read 26 rfl) ?_
  refine x_icmp_gt (tgt := 121) (by decide) (dk zX11_read 27 rfl) (fun c2 => ?_) (fun c2 => ?_)
  · have hc2t := hb1.1 c2
    refine x_iload_n 2 rfl rfl (dk zX11_read 72 rfl) ?_
    exact x_iret (ty := .int) rfl rfl (dk zX11_read 73 rfl) hc2t
  · have hc2f := hb1.2 c2
    refine x_iload_n 3 rfl rfl (dk zX11_read 28 rfl) ?_
    refine x_aload_n 0 rfl rfl (dk zX11_read 29 rfl) ?_
    refine gf11_1 (r := 125) rfl k123 r123_1 (dk zX11_read 30 rfl) ?_
    refine x_iload_n 1 rfl rfl (dk zX11_read 31 rfl) ?_
    refine y_iald (j := x1.toNatClampNeg) k125 l125 b1 rfl (dk zX11_read 32 rfl) ?_
    refine x_icmp_ge (tgt := 73) (by decide) (dk zX11_read 33 rfl) (fun c3 => ?_) (fun c3 => ?_)
    · have hc3t := hc2f.1 c3
      refine x_iconst (v := -1) (by decide) (dk zX11_read 45 rfl) ?_
      refine x_istoreG (l' := [(0, .ref 123), (1, .int x1), (2, .int x2), (3, .int x3), (4, .int ((-1)))]) [1, 2, 3, 4, 0] rfl (by decide) (dk zX11_read 46 rfl) ?_
      refine x_iload 4 rfl (dk zX11_read 47 rfl) ?_
      refine x_iconst (v := -1) (by decide) (dk zX11_read 48 rfl) ?_
      refine x_icmp_eq (tgt := 92) (by decide) (dk zX11_read 49 rfl) (fun _ => ?_) (fun c => absurd c (by decide))
      refine x_iload_n 2 rfl rfl (dk zX11_read 55 rfl) ?_
      refine x_aload_n 0 rfl rfl (dk zX11_read 56 rfl) ?_
      refine x_iconst (v := 1) (by decide) (dk zX11_read 57 rfl) ?_
      refine x_callV (as := [.int 1]) (o := 123) (ci := 11) (st := [.int x2]) rfl okRX11_307 npX11_lists ⟨Nat.le_of_ble_eq_true rfl, Nat.le_of_ble_eq_true rfl⟩ k123 (by decide) rfl (Nat.le_of_ble_eq_true rfl) (dk zX11_read 58 rfl) ?_
      refine hc3t.mono ?_
      rintro _ m4 ⟨r5, rfl, hm4⟩
      show Ex E MX11_read Q 98 [(0, .ref 123), (1, .int x1), (2, .int x2), (3, .int x3), (4, .int ((-1)))] [.int r5, .int x2] m4
      refine x_if_le (tgt := 105) (by decide) (dk zX11_read 59 rfl) (fun c6 => ?_) (fun c6 => ?_)
      · have hc6t := hm4.1 c6
        refine x_iconst (v := 0) (by decide) (dk zX11_read 62 rfl) ?_
        refine x_iadd (dk zX11_read 63 rfl) ?_
        refine x_topi (fun v7 ev7 => ?_)
        have hv7 := hc6t v7 ev7
        refine x_istore_n (k := 2) (l' := [(0, .ref 123), (1, .int x1), (2, .int v7), (3, .int x3), (4, .int ((-1)))]) [1, 2, 0, 3, 4] rfl rfl (by decide) (dk zX11_read 64 rfl) ?_
        refine x_aload_n 0 rfl rfl (dk zX11_read 65 rfl) ?_
        refine gf11_15 (r := 134) rfl k123 r123_15 (dk zX11_read 66 rfl) ?_
        refine x_iconst (v := 0) (by decide) (dk zX11_read 67 rfl) ?_
        refine x_iconst (v := 0) (by decide) (dk zX11_read 68 rfl) ?_
        refine y_iast (j := 0) k134 l134 (by unfold vp_in; decide) (by decide) (dk zX11_read 69 rfl) ?_
        obtain ⟨v8, ev8⟩ : ∃ y : Int32, y = x3 + 1 := ⟨_, rfl⟩
        have hv8 := hv7 v8 ev8
        refine x_iinc (v := v8) (l' := [(0, .ref 123), (1, .int x1), (2, .int v7), (3, .int v8), (4, .int ((-1)))]) 3 rfl (by rw [ev8]; rfl) [1, 2, 3, 0, 4] rfl (by decide) (dk zX11_read 70 rfl) ?_
        refine x_goto (tgt := 35) (by decide) (dk zX11_read 71 rfl) ?_
        exact x_sub [0, 1, 2, 3] rfl hv8
      · have hc6f := hm4.2 c6
        refine x_iconst (v := 1) (by decide) (dk zX11_read 60 rfl) ?_
        refine x_goto (tgt := 106) (by decide) (dk zX11_read 61 rfl) ?_
        refine x_iadd (dk zX11_read 63 rfl) ?_
        refine x_topi (fun v9 ev9 => ?_)
        have hv9 := hc6f v9 ev9
        refine x_istore_n (k := 2) (l' := [(0, .ref 123), (1, .int x1), (2, .int v9), (3, .int x3), (4, .int ((-1)))]) [1, 2, 0, 3, 4] rfl rfl (by decide) (dk zX11_read 64 rfl) ?_
        refine x_aload_n 0 rfl rfl (dk zX11_read 65 rfl) ?_
        refine gf11_15 (r := 134) rfl k123 r123_15 (dk zX11_read 66 rfl) ?_
        refine x_iconst (v := 0) (by decide) (dk zX11_read 67 rfl) ?_
        refine x_iconst (v := 0) (by decide) (dk zX11_read 68 rfl) ?_
        refine y_iast (j := 0) k134 l134 (by unfold vp_in; decide) (by decide) (dk zX11_read 69 rfl) ?_
        obtain ⟨v10, ev10⟩ : ∃ y : Int32, y = x3 + 1 := ⟨_, rfl⟩
        have hv10 := hv9 v10 ev10
        refine x_iinc (v := v10) (l' := [(0, .ref 123), (1, .int x1), (2, .int v9), (3, .int v10), (4, .int ((-1)))]) 3 rfl (by rw [ev10]; rfl) [1, 2, 3, 0, 4] rfl (by decide) (dk zX11_read 70 rfl) ?_
        refine x_goto (tgt := 35) (by decide) (dk zX11_read 71 rfl) ?_
        exact x_sub [0, 1, 2, 3] rfl hv10
    · have hc3f := hc2f.2 c3
      refine x_aload_n 0 rfl rfl (dk zX11_read 34 rfl) ?_
      refine x_aload_n 0 rfl rfl (dk zX11_read 35 rfl) ?_
      refine gf11_2 (r := 126) rfl k123 r123_2 (dk zX11_read 36 rfl) ?_
      refine x_bipush (v := 60) (by decide) (dk zX11_read 37 rfl) ?_
      refine x_iload_n 1 rfl rfl (dk zX11_read 38 rfl) ?_
      refine x_imul (dk zX11_read 39 rfl) ?_
      refine x_iload_n 3 rfl rfl (dk zX11_read 40 rfl) ?_
      refine x_iadd (dk zX11_read 41 rfl) ?_
      have b11 := hc3f.1
      have hb11 := hc3f.2
      refine y_iald (j := ((60 * x1) + x3).toNatClampNeg) k126 l126 b11 rfl (dk zX11_read 42 rfl) ?_
      refine x_callV (as := [.int (μ.1 126 (((60 * x1) + x3).toNatClampNeg))]) (o := 123) (ci := 11) (st := []) rfl okRX11_160 npX11_letterOf ⟨Nat.le_of_ble_eq_true rfl, Nat.le_of_ble_eq_true rfl⟩ k123 (by decide) rfl (Nat.le_of_ble_eq_true rfl) (dk zX11_read 43 rfl) ?_
      refine hb11.mono ?_
      rintro _ m12 ⟨r13, rfl, hm12⟩
      show Ex E MX11_read Q 70 [(0, .ref 123), (1, .int x1), (2, .int x2), (3, .int x3)] [.int r13] m12
      refine x_goto (tgt := 74) (by decide) (dk zX11_read 44 rfl) ?_
      refine x_istoreG (l' := [(0, .ref 123), (1, .int x1), (2, .int x2), (3, .int x3), (4, .int r13)]) [1, 2, 3, 4, 0] rfl (by decide) (dk zX11_read 46 rfl) ?_
      refine x_iload 4 rfl (dk zX11_read 47 rfl) ?_
      refine x_iconst (v := -1) (by decide) (dk zX11_read 48 rfl) ?_
      refine x_icmp_eq (tgt := 92) (by decide) (dk zX11_read 49 rfl) (fun c14 => ?_) (fun c14 => ?_)
      · have hc14t := hm12.1 c14
        refine x_iload_n 2 rfl rfl (dk zX11_read 55 rfl) ?_
        refine x_aload_n 0 rfl rfl (dk zX11_read 56 rfl) ?_
        refine x_iconst (v := 1) (by decide) (dk zX11_read 57 rfl) ?_
        refine x_callV (as := [.int 1]) (o := 123) (ci := 11) (st := [.int x2]) rfl okRX11_307 npX11_lists ⟨Nat.le_of_ble_eq_true rfl, Nat.le_of_ble_eq_true rfl⟩ k123 (by decide) rfl (Nat.le_of_ble_eq_true rfl) (dk zX11_read 58 rfl) ?_
        refine hc14t.mono ?_
        rintro _ m15 ⟨r16, rfl, hm15⟩
        show Ex E MX11_read Q 98 [(0, .ref 123), (1, .int x1), (2, .int x2), (3, .int x3), (4, .int r13)] [.int r16, .int x2] m15
        refine x_if_le (tgt := 105) (by decide) (dk zX11_read 59 rfl) (fun c17 => ?_) (fun c17 => ?_)
        · have hc17t := hm15.1 c17
          refine x_iconst (v := 0) (by decide) (dk zX11_read 62 rfl) ?_
          refine x_iadd (dk zX11_read 63 rfl) ?_
          refine x_topi (fun v18 ev18 => ?_)
          have hv18 := hc17t v18 ev18
          refine x_istore_n (k := 2) (l' := [(0, .ref 123), (1, .int x1), (2, .int v18), (3, .int x3), (4, .int r13)]) [1, 2, 0, 3, 4] rfl rfl (by decide) (dk zX11_read 64 rfl) ?_
          refine x_aload_n 0 rfl rfl (dk zX11_read 65 rfl) ?_
          refine gf11_15 (r := 134) rfl k123 r123_15 (dk zX11_read 66 rfl) ?_
          refine x_iconst (v := 0) (by decide) (dk zX11_read 67 rfl) ?_
          refine x_iconst (v := 0) (by decide) (dk zX11_read 68 rfl) ?_
          refine y_iast (j := 0) k134 l134 (by unfold vp_in; decide) (by decide) (dk zX11_read 69 rfl) ?_
          obtain ⟨v19, ev19⟩ : ∃ y : Int32, y = x3 + 1 := ⟨_, rfl⟩
          have hv19 := hv18 v19 ev19
          refine x_iinc (v := v19) (l' := [(0, .ref 123), (1, .int x1), (2, .int v18), (3, .int v19), (4, .int r13)]) 3 rfl (by rw [ev19]; rfl) [1, 2, 3, 0, 4] rfl (by decide) (dk zX11_read 70 rfl) ?_
          refine x_goto (tgt := 35) (by decide) (dk zX11_read 71 rfl) ?_
          exact x_sub [0, 1, 2, 3] rfl hv19
        · have hc17f := hm15.2 c17
          refine x_iconst (v := 1) (by decide) (dk zX11_read 60 rfl) ?_
          refine x_goto (tgt := 106) (by decide) (dk zX11_read 61 rfl) ?_
          refine x_iadd (dk zX11_read 63 rfl) ?_
          refine x_topi (fun v20 ev20 => ?_)
          have hv20 := hc17f v20 ev20
          refine x_istore_n (k := 2) (l' := [(0, .ref 123), (1, .int x1), (2, .int v20), (3, .int x3), (4, .int r13)]) [1, 2, 0, 3, 4] rfl rfl (by decide) (dk zX11_read 64 rfl) ?_
          refine x_aload_n 0 rfl rfl (dk zX11_read 65 rfl) ?_
          refine gf11_15 (r := 134) rfl k123 r123_15 (dk zX11_read 66 rfl) ?_
          refine x_iconst (v := 0) (by decide) (dk zX11_read 67 rfl) ?_
          refine x_iconst (v := 0) (by decide) (dk zX11_read 68 rfl) ?_
          refine y_iast (j := 0) k134 l134 (by unfold vp_in; decide) (by decide) (dk zX11_read 69 rfl) ?_
          obtain ⟨v21, ev21⟩ : ∃ y : Int32, y = x3 + 1 := ⟨_, rfl⟩
          have hv21 := hv20 v21 ev21
          refine x_iinc (v := v21) (l' := [(0, .ref 123), (1, .int x1), (2, .int v20), (3, .int v21), (4, .int r13)]) 3 rfl (by rw [ev21]; rfl) [1, 2, 3, 0, 4] rfl (by decide) (dk zX11_read 70 rfl) ?_
          refine x_goto (tgt := 35) (by decide) (dk zX11_read 71 rfl) ?_
          exact x_sub [0, 1, 2, 3] rfl hv21
      · have hc14f := hm12.2 c14
        refine x_aload_n 0 rfl rfl (dk zX11_read 50 rfl) ?_
        refine x_iconst (v := 0) (by decide) (dk zX11_read 51 rfl) ?_
        refine x_iload 4 rfl (dk zX11_read 52 rfl) ?_
        refine x_callV (as := [.int 0, .int r13]) (o := 123) (ci := 11) (st := []) rfl okRX11_189 npX11_stamp ⟨Nat.le_of_ble_eq_true rfl, Nat.le_of_ble_eq_true rfl⟩ k123 (by decide) rfl (Nat.le_of_ble_eq_true rfl) (dk zX11_read 53 rfl) ?_
        refine hc14f.mono ?_
        rintro _ m22 ⟨rfl, hm22⟩
        show Ex E MX11_read Q 89 [(0, .ref 123), (1, .int x1), (2, .int x2), (3, .int x3), (4, .int r13)] [] m22
        refine x_goto (tgt := 115) (by decide) (dk zX11_read 54 rfl) ?_
        obtain ⟨v23, ev23⟩ : ∃ y : Int32, y = x3 + 1 := ⟨_, rfl⟩
        have hv23 := hm22 v23 ev23
        refine x_iinc (v := v23) (l' := [(0, .ref 123), (1, .int x1), (2, .int x2), (3, .int v23), (4, .int r13)]) 3 rfl (by rw [ev23]; rfl) [1, 2, 3, 0, 4] rfl (by decide) (dk zX11_read 70 rfl) ?_
        refine x_goto (tgt := 35) (by decide) (dk zX11_read 71 rfl) ?_
        exact x_sub [0, 1, 2, 3] rfl hv23
set_option maxRecDepth 20000 in
set_option maxHeartbeats 2000000 in
theorem gX11_unlist_0 {E : EV} {Q : Po} {μ : Mem}  (h : ((¬ (μ.1 123 28) = 0 → ∀ v2 : Int32, v2 = (μ.1 123 28) - 1 → Q (some (.int ((mI μ 123 28 v2).1 123 28))) (mI μ 123 28 v2)) ∧ ((μ.1 123 28) = 0 → Q (some (.int ((-3)))) μ))) : Ex E MX11_unlist Q 0 [(0, .ref 123)] [] μ := by
  refine x_aload_n 0 rfl rfl (dk zX11_unlist 0 rfl) ?_
  refine gf11_28 rfl k123 (dk zX11_unlist 1 rfl) ?_
  refine x_if_ne (tgt := 10) (by decide) (dk zX11_unlist 2 rfl) (fun c1 => ?_) (fun c1 => ?_)
  · have hc1t := h.1 c1
    refine x_aload_n 0 rfl rfl (dk zX11_unlist 5 rfl) ?_
    refine x_dupr (dk zX11_unlist 6 rfl) ?_
    refine gf11_28 rfl k123 (dk zX11_unlist 7 rfl) ?_
    refine x_iconst (v := 1) (by decide) (dk zX11_unlist 8 rfl) ?_
    refine x_isub (dk zX11_unlist 9 rfl) ?_
    refine x_topi (fun v2 ev2 => ?_)
    have hv2 := hc1t v2 ev2
    refine pf11_28 rfl k123 (dk zX11_unlist 10 rfl) ?_
    refine x_aload_n 0 rfl rfl (dk zX11_unlist 11 rfl) ?_
    refine gf11_28 rfl k123 (dk zX11_unlist 12 rfl) ?_
    exact x_iret (ty := .int) rfl rfl (dk zX11_unlist 13 rfl) hv2
  · have hc1f := h.2 c1
    refine x_bipush (v := -3) (by decide) (dk zX11_unlist 3 rfl) ?_
    exact x_iret (ty := .int) rfl rfl (dk zX11_unlist 4 rfl) hc1f
set_option maxRecDepth 20000 in
set_option maxHeartbeats 2000000 in
theorem gX11_listedAt_0 {E : EV} {Q : Po} {μ : Mem} {x1 : Int32} {x2 : Int32} (h : vp_in x1 12 ∧ ((((μ.1 143 x1.toNatClampNeg) ≤ x2 → Q (some (.int ((-1)))) μ) ∧ (¬ (μ.1 143 x1.toNatClampNeg) ≤ x2 → vp_in ((60 * x1) + x2) 720 ∧ (Q (some (.int (μ.1 142 (((60 * x1) + x2).toNatClampNeg)))) μ))))) : Ex E MX11_listedAt Q 0 [(0, .ref 123), (1, .int x1), (2, .int x2)] [] μ := by
  refine x_iload_n 2 rfl rfl (dk zX11_listedAt 0 rfl) ?_
  refine x_aload_n 0 rfl rfl (dk zX11_listedAt 1 rfl) ?_
  refine gf11_30 (r := 143) rfl k123 r123_30 (dk zX11_listedAt 2 rfl) ?_
  refine x_iload_n 1 rfl rfl (dk zX11_listedAt 3 rfl) ?_
  have b1 := h.1
  have hb1 := h.2
  refine y_iald (j := x1.toNatClampNeg) k143 l143 b1 rfl (dk zX11_listedAt 4 rfl) ?_
  refine x_icmp_ge (tgt := 24) (by decide) (dk zX11_listedAt 5 rfl) (fun c2 => ?_) (fun c2 => ?_)
  · have hc2t := hb1.1 c2
    refine x_iconst (v := -1) (by decide) (dk zX11_listedAt 15 rfl) ?_
    exact x_iret (ty := .int) rfl rfl (dk zX11_listedAt 16 rfl) hc2t
  · have hc2f := hb1.2 c2
    refine x_aload_n 0 rfl rfl (dk zX11_listedAt 6 rfl) ?_
    refine gf11_29 (r := 142) rfl k123 r123_29 (dk zX11_listedAt 7 rfl) ?_
    refine x_bipush (v := 60) (by decide) (dk zX11_listedAt 8 rfl) ?_
    refine x_iload_n 1 rfl rfl (dk zX11_listedAt 9 rfl) ?_
    refine x_imul (dk zX11_listedAt 10 rfl) ?_
    refine x_iload_n 2 rfl rfl (dk zX11_listedAt 11 rfl) ?_
    refine x_iadd (dk zX11_listedAt 12 rfl) ?_
    have b3 := hc2f.1
    have hb3 := hc2f.2
    refine y_iald (j := ((60 * x1) + x2).toNatClampNeg) k142 l142 b3 rfl (dk zX11_listedAt 13 rfl) ?_
    refine x_goto (tgt := 25) (by decide) (dk zX11_listedAt 14 rfl) ?_
    exact x_iret (ty := .int) rfl rfl (dk zX11_listedAt 16 rfl) hb3
set_option maxRecDepth 20000 in
set_option maxHeartbeats 2000000 in
theorem gX11_listed_0 {E : EV} {Q : Po} {μ : Mem} {x1 : Int32} {x2 : Int32} (h : Sp E MX11_in [.long (Int32.toInt64 x1), .long 0, .long (Int32.toInt64 ((μ.1 123 28) - 1))] μ (fun v m1 => ∃ r2 : Int32, v = some (.int r2) ∧ ((r2 = 0 → Q (some (.int ((-2)))) m1) ∧ (¬ r2 = 0 → Sp E MX11_in [.long (Int32.toInt64 x2), .long ((-1)), .long ((10))] m1 (fun v m4 => ∃ r5 : Int32, v = some (.int r5) ∧ ((¬ r5 = 0 → ((¬ x2 = ((-1)) → Sp E MX11_listedAt [.ref 123, .int x1, .int x2] m4 (fun v m8 => ∃ r9 : Int32, v = some (.int r9) ∧ Q (some (.int r9)) m8)) ∧ (x2 = ((-1)) → vp_in x1 12 ∧ (Q (some (.int (m4.1 143 x1.toNatClampNeg))) m4)))) ∧ (r5 = 0 → Q (some (.int ((-2)))) m4))))))) : Ex E MX11_listed Q 0 [(0, .ref 123), (1, .int x1), (2, .int x2)] [] μ := by
  refine x_iload_n 1 rfl rfl (dk zX11_listed 0 rfl) ?_
  refine x_i2l (dk zX11_listed 1 rfl) ?_
  refine x_lconst (v := 0) (by decide) (dk zX11_listed 2 rfl) ?_
  refine x_aload_n 0 rfl rfl (dk zX11_listed 3 rfl) ?_
  refine gf11_28 rfl k123 (dk zX11_listed 4 rfl) ?_
  refine x_iconst (v := 1) (by decide) (dk zX11_listed 5 rfl) ?_
  refine x_isub (dk zX11_listed 6 rfl) ?_
  refine x_i2l (dk zX11_listed 7 rfl) ?_
  refine x_callS (as := [.long (Int32.toInt64 x1), .long 0, .long (Int32.toInt64 ((μ.1 123 28) - 1))]) (st := []) rfl okRX11_86 npX11_in ⟨Nat.le_of_ble_eq_true rfl, Nat.le_of_ble_eq_true rfl⟩ (Nat.le_of_ble_eq_true rfl) (dk zX11_listed 8 rfl) ?_
  refine h.mono ?_
  rintro _ m1 ⟨r2, rfl, hm1⟩
  show Ex E MX11_listed Q 13 [(0, .ref 123), (1, .int x1), (2, .int x2)] [.int r2] m1
  refine x_if_eq (tgt := 30) (by decide) (dk zX11_listed 9 rfl) (fun c3 => ?_) (fun c3 => ?_)
  · have hc3t := hm1.1 c3
    refine x_bipush (v := -2) (by decide) (dk zX11_listed 16 rfl) ?_
    exact x_iret (ty := .int) rfl rfl (dk zX11_listed 17 rfl) hc3t
  · have hc3f := hm1.2 c3
    refine x_iload_n 2 rfl rfl (dk zX11_listed 10 rfl) ?_
    refine x_i2l (dk zX11_listed 11 rfl) ?_
    refine x_ldc2 (v := -1) rfl wkRX11_250 (dk zX11_listed 12 rfl) ?_
    refine x_ldc2 (v := 10) rfl wkRX11_311 (dk zX11_listed 13 rfl) ?_
    refine x_callS (as := [.long (Int32.toInt64 x2), .long ((-1)), .long ((10))]) (st := []) rfl okRX11_86 npX11_in ⟨Nat.le_of_ble_eq_true rfl, Nat.le_of_ble_eq_true rfl⟩ (Nat.le_of_ble_eq_true rfl) (dk zX11_listed 14 rfl) ?_
    refine hc3f.mono ?_
    rintro _ m4 ⟨r5, rfl, hm4⟩
    show Ex E MX11_listed Q 27 [(0, .ref 123), (1, .int x1), (2, .int x2)] [.int r5] m4
    refine x_if_ne (tgt := 33) (by decide) (dk zX11_listed 15 rfl) (fun c6 => ?_) (fun c6 => ?_)
    · have hc6t := hm4.1 c6
      refine x_iload_n 2 rfl rfl (dk zX11_listed 18 rfl) ?_
      refine x_iconst (v := -1) (by decide) (dk zX11_listed 19 rfl) ?_
      refine x_icmp_ne (tgt := 47) (by decide) (dk zX11_listed 20 rfl) (fun c7 => ?_) (fun c7 => ?_)
      · have hc7t := hc6t.1 c7
        refine x_aload_n 0 rfl rfl (dk zX11_listed 26 rfl) ?_
        refine x_iload_n 1 rfl rfl (dk zX11_listed 27 rfl) ?_
        refine x_iload_n 2 rfl rfl (dk zX11_listed 28 rfl) ?_
        refine x_callV (as := [.int x1, .int x2]) (o := 123) (ci := 11) (st := []) rfl okRX11_313 npX11_listedAt ⟨Nat.le_of_ble_eq_true rfl, Nat.le_of_ble_eq_true rfl⟩ k123 (by decide) rfl (Nat.le_of_ble_eq_true rfl) (dk zX11_listed 29 rfl) ?_
        refine hc7t.mono ?_
        rintro _ m8 ⟨r9, rfl, hm8⟩
        show Ex E MX11_listed Q 53 [(0, .ref 123), (1, .int x1), (2, .int x2)] [.int r9] m8
        exact x_iret (ty := .int) rfl rfl (dk zX11_listed 30 rfl) hm8
      · have hc7f := hc6t.2 c7
        refine x_aload_n 0 rfl rfl (dk zX11_listed 21 rfl) ?_
        refine gf11_30 (r := 143) rfl k123 r123_30 (dk zX11_listed 22 rfl) ?_
        refine x_iload_n 1 rfl rfl (dk zX11_listed 23 rfl) ?_
        have b10 := hc7f.1
        have hb10 := hc7f.2
        refine y_iald (j := x1.toNatClampNeg) k143 l143 b10 rfl (dk zX11_listed 24 rfl) ?_
        refine x_goto (tgt := 53) (by decide) (dk zX11_listed 25 rfl) ?_
        exact x_iret (ty := .int) rfl rfl (dk zX11_listed 30 rfl) hb10
    · have hc6f := hm4.2 c6
      refine x_bipush (v := -2) (by decide) (dk zX11_listed 16 rfl) ?_
      exact x_iret (ty := .int) rfl rfl (dk zX11_listed 17 rfl) hc6f
set_option maxRecDepth 20000 in
set_option maxHeartbeats 2000000 in
theorem gX11_letsBy_0 {E : EV} {Q : Po} {μ : Mem} {x1 : Int32} (h : Ex E MX11_letsBy Q 2 [(0, .ref 123), (1, .int x1), (2, .int 0)] [] μ) : Ex E MX11_letsBy Q 0 [(0, .ref 123), (1, .int x1)] [] μ := by
  refine x_iconst (v := 0) (by decide) (dk zX11_letsBy 0 rfl) ?_
  refine x_istore_n (k := 2) (l' := [(0, .ref 123), (1, .int x1), (2, .int 0)]) [1, 2, 0] rfl rfl (by decide) (dk zX11_letsBy 1 rfl) ?_
  exact h
set_option maxRecDepth 20000 in
set_option maxHeartbeats 2000000 in
theorem gX11_letsBy_2 {E : EV} {Q : Po} {μ : Mem} {x1 : Int32} {x2 : Int32} (h : (((μ.1 123 28) ≤ x2 → Q (some (.int 0)) μ) ∧ (¬ (μ.1 123 28) ≤ x2 → vp_in x2 12 ∧ (∀ v3 : Int32, v3 = μ.1 144 x2.toNatClampNeg → Ex E MX11_letsBy Q 20 [(0, .ref 123), (1, .int x1), (2, .int x2), (3, .int v3), (4, .int 0)] [] μ)))) : Ex E MX11_letsBy Q 2 [(0, .ref 123), (1, .int x1), (2, .int x2)] [] μ := by
  refine x_iload_n 2 rfl rfl (dk zX11_letsBy 2 rfl) ?_
  refine x_aload_n 0 rfl rfl (dk zX11_letsBy 3 rfl) ?_
  refine gf11_28 rfl k123 (dk zX11_letsBy 4 rfl) ?_
  refine x_icmp_ge (tgt := 81) (by decide) (dk zX11_letsBy 5 rfl) (fun c1 => ?_) (fun c1 => ?_)
  · have hc1t := h.1 c1
    refine x_iconst (v := 0) (by decide) (dk zX11_letsBy 45 rfl) ?_
    exact x_iret rfl rfl (dk zX11_letsBy 46 rfl) hc1t
  · have hc1f := h.2 c1
    refine x_aload_n 0 rfl rfl (dk zX11_letsBy 6 rfl) ?_
    refine gf11_31 (r := 144) rfl k123 r123_31 (dk zX11_letsBy 7 rfl) ?_
    refine x_iload_n 2 rfl rfl (dk zX11_letsBy 8 rfl) ?_
    have b2 := hc1f.1
    have hb2 := hc1f.2
    refine y_zald (j := x2.toNatClampNeg) k144 l144 b2 rfl (dk zX11_letsBy 9 rfl) ?_
    refine x_topi (fun v3 ev3 => ?_)
    have hv3 := hb2 v3 ev3
    refine x_istore_n (k := 3) (l' := [(0, .ref 123), (1, .int x1), (2, .int x2), (3, .int v3)]) [1, 2, 3, 0] rfl rfl (by decide) (dk zX11_letsBy 10 rfl) ?_
    refine x_iconst (v := 0) (by decide) (dk zX11_letsBy 11 rfl) ?_
    refine x_istoreG (l' := [(0, .ref 123), (1, .int x1), (2, .int x2), (3, .int v3), (4, .int 0)]) [1, 2, 3, 4, 0] rfl (by decide) (dk zX11_letsBy 12 rfl) ?_
    exact hv3
set_option maxRecDepth 20000 in
set_option maxHeartbeats 2000000 in
theorem gX11_letsBy_20 {E : EV} {Q : Po} {μ : Mem} {x1 : Int32} {x2 : Int32} {x3 : Int32} {x4 : Int32} (h : ((11 ≤ x4 → ((x3 = 0 → ∀ v3 : Int32, v3 = x2 + 1 → Ex E MX11_letsBy Q 2 [(0, .ref 123), (1, .int x1), (2, .int v3)] [] μ) ∧ (¬ x3 = 0 → Q (some (.int 1)) μ))) ∧ (¬ 11 ≤ x4 → ((x3 = 0 → ((x3 = 0 → ∀ v6 : Int32, v6 = x2 + 1 → Ex E MX11_letsBy Q 2 [(0, .ref 123), (1, .int x1), (2, .int v6)] [] μ) ∧ (¬ x3 = 0 → Q (some (.int 1)) μ))) ∧ (¬ x3 = 0 → ((((x1 >>> ((x4 : Int32) &&& 31)) &&& 1) = 0 → ∀ v8 : Int32, v8 = x4 + 1 → Ex E MX11_letsBy Q 20 [(0, .ref 123), (1, .int x1), (2, .int x2), (3, .int 1), (4, .int v8)] [] μ) ∧ (¬ ((x1 >>> ((x4 : Int32) &&& 31)) &&& 1) = 0 → vp_in x4 11 ∧ (Sp E MX11_listedAt [.ref 123, .int x2, .int x4] μ (fun v m10 => ∃ r11 : Int32, v = some (.int r11) ∧ ((¬ (μ.1 145 x4.toNatClampNeg) = r11 → ∀ v13 : Int32, v13 = x4 + 1 → Ex E MX11_letsBy Q 20 [(0, .ref 123), (1, .int x1), (2, .int x2), (3, .int 0), (4, .int v13)] [] m10) ∧ ((μ.1 145 x4.toNatClampNeg) = r11 → ∀ v14 : Int32, v14 = x4 + 1 → Ex E MX11_letsBy Q 20 [(0, .ref 123), (1, .int x1), (2, .int x2), (3, .int 1), (4, .int v14)] [] m10))))))))))) : Ex E MX11_letsBy Q 20 [(0, .ref 123), (1, .int x1), (2, .int x2), (3, .int x3), (4, .int x4)] [] μ := by
  refine x_iload 4 rfl (dk zX11_letsBy 13 rfl) ?_
  refine x_bipush (v := 11) (by decide) (dk zX11_letsBy 14 rfl) ?_
  refine x_icmp_ge (tgt := 69) (by decide) (dk zX11_letsBy 15 rfl) (fun c1 => ?_) (fun c1 => ?_)
  · have hc1t := h.1 c1
    refine x_iload_n 3 rfl rfl (dk zX11_letsBy 39 rfl) ?_
    refine x_if_eq (tgt := 75) (by decide) (dk zX11_letsBy 40 rfl) (fun c2 => ?_) (fun c2 => ?_)
    · have hc2t := hc1t.1 c2
      obtain ⟨v3, ev3⟩ : ∃ y : Int32, y = x2 + 1 := ⟨_, rfl⟩
      have hv3 := hc2t v3 ev3
      refine x_iinc (v := v3) (l' := [(0, .ref 123), (1, .int x1), (2, .int v3), (3, .int x3), (4, .int x4)]) 2 rfl (by rw [ev3]; rfl) [1, 2, 0, 3, 4] rfl (by decide) (dk zX11_letsBy 43 rfl) ?_
      refine x_goto (tgt := 2) (by decide) (dk zX11_letsBy 44 rfl) ?_
      exact x_sub [0, 1, 2] rfl hv3
    · have hc2f := hc1t.2 c2
      refine x_iconst (v := 1) (by decide) (dk zX11_letsBy 41 rfl) ?_
      exact x_iret rfl rfl (dk zX11_letsBy 42 rfl) hc2f
  · have hc1f := h.2 c1
    refine x_iload_n 3 rfl rfl (dk zX11_letsBy 16 rfl) ?_
    refine x_if_eq (tgt := 69) (by decide) (dk zX11_letsBy 17 rfl) (fun c4 => ?_) (fun c4 => ?_)
    · have hc4t := hc1f.1 c4
      refine x_iload_n 3 rfl rfl (dk zX11_letsBy 39 rfl) ?_
      refine x_if_eq (tgt := 75) (by decide) (dk zX11_letsBy 40 rfl) (fun c5 => ?_) (fun c5 => ?_)
      · have hc5t := hc4t.1 c5
        obtain ⟨v6, ev6⟩ : ∃ y : Int32, y = x2 + 1 := ⟨_, rfl⟩
        have hv6 := hc5t v6 ev6
        refine x_iinc (v := v6) (l' := [(0, .ref 123), (1, .int x1), (2, .int v6), (3, .int x3), (4, .int x4)]) 2 rfl (by rw [ev6]; rfl) [1, 2, 0, 3, 4] rfl (by decide) (dk zX11_letsBy 43 rfl) ?_
        refine x_goto (tgt := 2) (by decide) (dk zX11_letsBy 44 rfl) ?_
        exact x_sub [0, 1, 2] rfl hv6
      · have hc5f := hc4t.2 c5
        refine x_iconst (v := 1) (by decide) (dk zX11_letsBy 41 rfl) ?_
        exact x_iret rfl rfl (dk zX11_letsBy 42 rfl) hc5f
    · have hc4f := hc1f.2 c4
      refine x_iload_n 1 rfl rfl (dk zX11_letsBy 18 rfl) ?_
      refine x_iload 4 rfl (dk zX11_letsBy 19 rfl) ?_
      refine x_ishr (dk zX11_letsBy 20 rfl) ?_
      refine x_iconst (v := 1) (by decide) (dk zX11_letsBy 21 rfl) ?_
      refine x_iand (dk zX11_letsBy 22 rfl) ?_
      refine x_if_eq (tgt := 57) (by decide) (dk zX11_letsBy 23 rfl) (fun c7 => ?_) (fun c7 => ?_)
      · have hc7t := hc4f.1 c7
        refine x_iconst (v := 1) (by decide) (dk zX11_letsBy 33 rfl) ?_
        refine x_goto (tgt := 62) (by decide) (dk zX11_letsBy 34 rfl) ?_
        refine x_istore_n (k := 3) (l' := [(0, .ref 123), (1, .int x1), (2, .int x2), (3, .int 1), (4, .int x4)]) [1, 2, 3, 0, 4] rfl rfl (by decide) (dk zX11_letsBy 36 rfl) ?_
        obtain ⟨v8, ev8⟩ : ∃ y : Int32, y = x4 + 1 := ⟨_, rfl⟩
        have hv8 := hc7t v8 ev8
        refine x_iinc (v := v8) (l' := [(0, .ref 123), (1, .int x1), (2, .int x2), (3, .int 1), (4, .int v8)]) 4 rfl (by rw [ev8]; rfl) [1, 2, 3, 4, 0] rfl (by decide) (dk zX11_letsBy 37 rfl) ?_
        refine x_goto (tgt := 20) (by decide) (dk zX11_letsBy 38 rfl) ?_
        exact hv8
      · have hc7f := hc4f.2 c7
        refine x_aload_n 0 rfl rfl (dk zX11_letsBy 24 rfl) ?_
        refine gf11_32 (r := 145) rfl k123 r123_32 (dk zX11_letsBy 25 rfl) ?_
        refine x_iload 4 rfl (dk zX11_letsBy 26 rfl) ?_
        have b9 := hc7f.1
        have hb9 := hc7f.2
        refine y_iald (j := x4.toNatClampNeg) k145 l145 b9 rfl (dk zX11_letsBy 27 rfl) ?_
        refine x_aload_n 0 rfl rfl (dk zX11_letsBy 28 rfl) ?_
        refine x_iload_n 2 rfl rfl (dk zX11_letsBy 29 rfl) ?_
        refine x_iload 4 rfl (dk zX11_letsBy 30 rfl) ?_
        refine x_callV (as := [.int x2, .int x4]) (o := 123) (ci := 11) (st := [.int (μ.1 145 x4.toNatClampNeg)]) rfl okRX11_313 npX11_listedAt ⟨Nat.le_of_ble_eq_true rfl, Nat.le_of_ble_eq_true rfl⟩ k123 (by decide) rfl (Nat.le_of_ble_eq_true rfl) (dk zX11_letsBy 31 rfl) ?_
        refine hb9.mono ?_
        rintro _ m10 ⟨r11, rfl, hm10⟩
        show Ex E MX11_letsBy Q 54 [(0, .ref 123), (1, .int x1), (2, .int x2), (3, .int x3), (4, .int x4)] [.int r11, .int (μ.1 145 x4.toNatClampNeg)] m10
        refine x_icmp_ne (tgt := 61) (by decide) (dk zX11_letsBy 32 rfl) (fun c12 => ?_) (fun c12 => ?_)
        · have hc12t := hm10.1 c12
          refine x_iconst (v := 0) (by decide) (dk zX11_letsBy 35 rfl) ?_
          refine x_istore_n (k := 3) (l' := [(0, .ref 123), (1, .int x1), (2, .int x2), (3, .int 0), (4, .int x4)]) [1, 2, 3, 0, 4] rfl rfl (by decide) (dk zX11_letsBy 36 rfl) ?_
          obtain ⟨v13, ev13⟩ : ∃ y : Int32, y = x4 + 1 := ⟨_, rfl⟩
          have hv13 := hc12t v13 ev13
          refine x_iinc (v := v13) (l' := [(0, .ref 123), (1, .int x1), (2, .int x2), (3, .int 0), (4, .int v13)]) 4 rfl (by rw [ev13]; rfl) [1, 2, 3, 4, 0] rfl (by decide) (dk zX11_letsBy 37 rfl) ?_
          refine x_goto (tgt := 20) (by decide) (dk zX11_letsBy 38 rfl) ?_
          exact hv13
        · have hc12f := hm10.2 c12
          refine x_iconst (v := 1) (by decide) (dk zX11_letsBy 33 rfl) ?_
          refine x_goto (tgt := 62) (by decide) (dk zX11_letsBy 34 rfl) ?_
          refine x_istore_n (k := 3) (l' := [(0, .ref 123), (1, .int x1), (2, .int x2), (3, .int 1), (4, .int x4)]) [1, 2, 3, 0, 4] rfl rfl (by decide) (dk zX11_letsBy 36 rfl) ?_
          obtain ⟨v14, ev14⟩ : ∃ y : Int32, y = x4 + 1 := ⟨_, rfl⟩
          have hv14 := hc12f v14 ev14
          refine x_iinc (v := v14) (l' := [(0, .ref 123), (1, .int x1), (2, .int x2), (3, .int 1), (4, .int v14)]) 4 rfl (by rw [ev14]; rfl) [1, 2, 3, 4, 0] rfl (by decide) (dk zX11_letsBy 37 rfl) ?_
          refine x_goto (tgt := 20) (by decide) (dk zX11_letsBy 38 rfl) ?_
          exact hv14
set_option maxRecDepth 20000 in
set_option maxHeartbeats 2000000 in
theorem gX11_arePlaces_0 {E : EV} {Q : Po} {μ : Mem} {x0 : Int32} (h : Sp E MX11_in [.long (Int32.toInt64 x0), .long 0, .long ((2047))] μ (fun v m1 => ∃ r2 : Int32, v = some (.int r2) ∧ ((r2 = 0 ∨ r2 = 1) ∧ Q (some (.int r2)) m1))) : Ex E MX11_arePlaces Q 0 [(0, .int x0)] [] μ := by
  refine x_iload_n 0 rfl rfl (dk zX11_arePlaces 0 rfl) ?_
  refine x_i2l (dk zX11_arePlaces 1 rfl) ?_
  refine x_lconst (v := 0) (by decide) (dk zX11_arePlaces 2 rfl) ?_
  refine x_ldc2 (v := 2047) rfl wkRX11_316 (dk zX11_arePlaces 3 rfl) ?_
  refine x_callS (as := [.long (Int32.toInt64 x0), .long 0, .long ((2047))]) (st := []) rfl okRX11_86 npX11_in ⟨Nat.le_of_ble_eq_true rfl, Nat.le_of_ble_eq_true rfl⟩ (Nat.le_of_ble_eq_true rfl) (dk zX11_arePlaces 4 rfl) ?_
  refine h.mono ?_
  rintro _ m1 ⟨r2, rfl, hm1⟩
  show Ex E MX11_arePlaces Q 9 [(0, .int x0)] [.int r2] m1
  exact x_iret rfl (nar_b hm1.1) (dk zX11_arePlaces 5 rfl) hm1.2
set_option maxRecDepth 20000 in
set_option maxHeartbeats 2000000 in
theorem gX11_lets_0 {E : EV} {Q : Po} {μ : Mem} {x1 : Int32} {x2 : Int32} (h : Sp E MX11_isWay [.int x1] μ (fun v m1 => ∃ r2 : Int32, v = some (.int r2) ∧ ((r2 = 0 → Q (some (.int ((-2)))) m1) ∧ (¬ r2 = 0 → Sp E MX11_arePlaces [.int x2] m1 (fun v m4 => ∃ r5 : Int32, v = some (.int r5) ∧ ((¬ r5 = 0 → Sp E MX11_findPaper [.ref 123, .int 0, .int x1] m4 (fun v m7 => v = none ∧ Ex E MX11_lets Q 25 [(0, .ref 123), (1, .int x1), (2, .int x2), (3, .int 0)] [] m7)) ∧ (r5 = 0 → Q (some (.int ((-2)))) m4))))))) : Ex E MX11_lets Q 0 [(0, .ref 123), (1, .int x1), (2, .int x2)] [] μ := by
  refine x_iload_n 1 rfl rfl (dk zX11_lets 0 rfl) ?_
  refine x_callS (as := [.int x1]) (st := []) rfl okRX11_193 npX11_isWay ⟨Nat.le_of_ble_eq_true rfl, Nat.le_of_ble_eq_true rfl⟩ (Nat.le_of_ble_eq_true rfl) (dk zX11_lets 1 rfl) ?_
  refine h.mono ?_
  rintro _ m1 ⟨r2, rfl, hm1⟩
  show Ex E MX11_lets Q 4 [(0, .ref 123), (1, .int x1), (2, .int x2)] [.int r2] m1
  refine x_if_eq (tgt := 14) (by decide) (dk zX11_lets 2 rfl) (fun c3 => ?_) (fun c3 => ?_)
  · have hc3t := hm1.1 c3
    refine x_bipush (v := -2) (by decide) (dk zX11_lets 6 rfl) ?_
    exact x_iret (ty := .int) rfl rfl (dk zX11_lets 7 rfl) hc3t
  · have hc3f := hm1.2 c3
    refine x_iload_n 2 rfl rfl (dk zX11_lets 3 rfl) ?_
    refine x_callS (as := [.int x2]) (st := []) rfl okRX11_318 npX11_arePlaces ⟨Nat.le_of_ble_eq_true rfl, Nat.le_of_ble_eq_true rfl⟩ (Nat.le_of_ble_eq_true rfl) (dk zX11_lets 4 rfl) ?_
    refine hc3f.mono ?_
    rintro _ m4 ⟨r5, rfl, hm4⟩
    show Ex E MX11_lets Q 11 [(0, .ref 123), (1, .int x1), (2, .int x2)] [.int r5] m4
    refine x_if_ne (tgt := 17) (by decide) (dk zX11_lets 5 rfl) (fun c6 => ?_) (fun c6 => ?_)
    · have hc6t := hm4.1 c6
      refine x_aload_n 0 rfl rfl (dk zX11_lets 8 rfl) ?_
      refine x_iconst (v := 0) (by decide) (dk zX11_lets 9 rfl) ?_
      refine x_iload_n 1 rfl rfl (dk zX11_lets 10 rfl) ?_
      refine x_callV (as := [.int 0, .int x1]) (o := 123) (ci := 11) (st := []) rfl okRX11_196 npX11_findPaper ⟨Nat.le_of_ble_eq_true rfl, Nat.le_of_ble_eq_true rfl⟩ k123 (by decide) rfl (Nat.le_of_ble_eq_true rfl) (dk zX11_lets 11 rfl) ?_
      refine hc6t.mono ?_
      rintro _ m7 ⟨rfl, hm7⟩
      show Ex E MX11_lets Q 23 [(0, .ref 123), (1, .int x1), (2, .int x2)] [] m7
      refine x_iconst (v := 0) (by decide) (dk zX11_lets 12 rfl) ?_
      refine x_istore_n (k := 3) (l' := [(0, .ref 123), (1, .int x1), (2, .int x2), (3, .int 0)]) [1, 2, 3, 0] rfl rfl (by decide) (dk zX11_lets 13 rfl) ?_
      exact hm7
    · have hc6f := hm4.2 c6
      refine x_bipush (v := -2) (by decide) (dk zX11_lets 6 rfl) ?_
      exact x_iret (ty := .int) rfl rfl (dk zX11_lets 7 rfl) hc6f
set_option maxRecDepth 20000 in
set_option maxHeartbeats 2000000 in
theorem gX11_lets_25 {E : EV} {Q : Po} {μ : Mem} {x1 : Int32} {x2 : Int32} {x3 : Int32} (h : ((11 ≤ x3 → Sp E MX11_letsBy [.ref 123, .int x2] μ (fun v m2 => ∃ r3 : Int32, v = some (.int r3) ∧ ((r3 = 0 → Q (some (.int 0)) m2) ∧ (¬ r3 = 0 → Q (some (.int 1)) m2)))) ∧ (¬ 11 ≤ x3 → (((μ.1 134 0) ≤ x3 → vp_in x3 11 ∧ (∀ v7 : Int32, v7 = x3 + 1 → Ex E MX11_lets Q 25 [(0, .ref 123), (1, .int x1), (2, .int x2), (3, .int v7)] [] (mI μ 145 x3.toNatClampNeg ((-1))))) ∧ (¬ (μ.1 134 0) ≤ x3 → vp_in x3 120 ∧ (Sp E MX11_byteOf [.int (μ.1 133 x3.toNatClampNeg)] μ (fun v m9 => ∃ r10 : Int32, v = some (.int r10) ∧ vp_in x3 11 ∧ (∀ v12 : Int32, v12 = x3 + 1 → Ex E MX11_lets Q 25 [(0, .ref 123), (1, .int x1), (2, .int x2), (3, .int v12)] [] (mI m9 145 x3.toNatClampNeg r10))))))))) : Ex E MX11_lets Q 25 [(0, .ref 123), (1, .int x1), (2, .int x2), (3, .int x3)] [] μ := by
  refine x_iload_n 3 rfl rfl (dk zX11_lets 14 rfl) ?_
  refine x_bipush (v := 11) (by decide) (dk zX11_lets 15 rfl) ?_
  refine x_icmp_ge (tgt := 66) (by decide) (dk zX11_lets 16 rfl) (fun c1 => ?_) (fun c1 => ?_)
  · have hc1t := h.1 c1
    refine x_aload_n 0 rfl rfl (dk zX11_lets 36 rfl) ?_
    refine x_iload_n 2 rfl rfl (dk zX11_lets 37 rfl) ?_
    refine x_callV (as := [.int x2]) (o := 123) (ci := 11) (st := []) rfl okRX11_321 npX11_letsBy ⟨Nat.le_of_ble_eq_true rfl, Nat.le_of_ble_eq_true rfl⟩ k123 (by decide) rfl (Nat.le_of_ble_eq_true rfl) (dk zX11_lets 38 rfl) ?_
    refine hc1t.mono ?_
    rintro _ m2 ⟨r3, rfl, hm2⟩
    show Ex E MX11_lets Q 71 [(0, .ref 123), (1, .int x1), (2, .int x2), (3, .int x3)] [.int r3] m2
    refine x_if_eq (tgt := 78) (by decide) (dk zX11_lets 39 rfl) (fun c4 => ?_) (fun c4 => ?_)
    · have hc4t := hm2.1 c4
      refine x_iconst (v := 0) (by decide) (dk zX11_lets 42 rfl) ?_
      exact x_iret (ty := .int) rfl rfl (dk zX11_lets 43 rfl) hc4t
    · have hc4f := hm2.2 c4
      refine x_iconst (v := 1) (by decide) (dk zX11_lets 40 rfl) ?_
      refine x_goto (tgt := 79) (by decide) (dk zX11_lets 41 rfl) ?_
      exact x_iret (ty := .int) rfl rfl (dk zX11_lets 43 rfl) hc4f
  · have hc1f := h.2 c1
    refine x_aload_n 0 rfl rfl (dk zX11_lets 17 rfl) ?_
    refine gf11_32 (r := 145) rfl k123 r123_32 (dk zX11_lets 18 rfl) ?_
    refine x_iload_n 3 rfl rfl (dk zX11_lets 19 rfl) ?_
    refine x_iload_n 3 rfl rfl (dk zX11_lets 20 rfl) ?_
    refine x_aload_n 0 rfl rfl (dk zX11_lets 21 rfl) ?_
    refine gf11_15 (r := 134) rfl k123 r123_15 (dk zX11_lets 22 rfl) ?_
    refine x_iconst (v := 0) (by decide) (dk zX11_lets 23 rfl) ?_
    refine y_iald (j := 0) k134 l134 (by unfold vp_in; decide) (by decide) (dk zX11_lets 24 rfl) ?_
    refine x_icmp_ge (tgt := 58) (by decide) (dk zX11_lets 25 rfl) (fun c5 => ?_) (fun c5 => ?_)
    · have hc5t := hc1f.1 c5
      refine x_iconst (v := -1) (by decide) (dk zX11_lets 32 rfl) ?_
      have b6 := hc5t.1
      have hb6 := hc5t.2
      refine y_iast (j := x3.toNatClampNeg) k145 l145 b6 rfl (dk zX11_lets 33 rfl) ?_
      obtain ⟨v7, ev7⟩ : ∃ y : Int32, y = x3 + 1 := ⟨_, rfl⟩
      have hv7 := hb6 v7 ev7
      refine x_iinc (v := v7) (l' := [(0, .ref 123), (1, .int x1), (2, .int x2), (3, .int v7)]) 3 rfl (by rw [ev7]; rfl) [1, 2, 3, 0] rfl (by decide) (dk zX11_lets 34 rfl) ?_
      refine x_goto (tgt := 25) (by decide) (dk zX11_lets 35 rfl) ?_
      exact hv7
    · have hc5f := hc1f.2 c5
      refine x_aload_n 0 rfl rfl (dk zX11_lets 26 rfl) ?_
      refine gf11_14 (r := 133) rfl k123 r123_14 (dk zX11_lets 27 rfl) ?_
      refine x_iload_n 3 rfl rfl (dk zX11_lets 28 rfl) ?_
      have b8 := hc5f.1
      have hb8 := hc5f.2
      refine y_iald (j := x3.toNatClampNeg) k133 l133 b8 rfl (dk zX11_lets 29 rfl) ?_
      refine x_callS (as := [.int (μ.1 133 x3.toNatClampNeg)]) (st := [.int x3, .ref 145]) rfl okRX11_199 npX11_byteOf ⟨Nat.le_of_ble_eq_true rfl, Nat.le_of_ble_eq_true rfl⟩ (Nat.le_of_ble_eq_true rfl) (dk zX11_lets 30 rfl) ?_
      refine hb8.mono ?_
      rintro _ m9 ⟨r10, rfl, hm9⟩
      show Ex E MX11_lets Q 55 [(0, .ref 123), (1, .int x1), (2, .int x2), (3, .int x3)] [.int r10, .int x3, .ref 145] m9
      refine x_goto (tgt := 59) (by decide) (dk zX11_lets 31 rfl) ?_
      have b11 := hm9.1
      have hb11 := hm9.2
      refine y_iast (j := x3.toNatClampNeg) k145 l145 b11 rfl (dk zX11_lets 33 rfl) ?_
      obtain ⟨v12, ev12⟩ : ∃ y : Int32, y = x3 + 1 := ⟨_, rfl⟩
      have hv12 := hb11 v12 ev12
      refine x_iinc (v := v12) (l' := [(0, .ref 123), (1, .int x1), (2, .int x2), (3, .int v12)]) 3 rfl (by rw [ev12]; rfl) [1, 2, 3, 0] rfl (by decide) (dk zX11_lets 34 rfl) ?_
      refine x_goto (tgt := 25) (by decide) (dk zX11_lets 35 rfl) ?_
      exact hv12
set_option maxRecDepth 20000 in
set_option maxHeartbeats 2000000 in
theorem gX11_slipsOf_0 {E : EV} {Q : Po} {μ : Mem} {x1 : Int32} (h : Ex E MX11_slipsOf Q 4 [(0, .ref 123), (1, .int x1), (2, .int 0), (3, .int 0)] [] μ) : Ex E MX11_slipsOf Q 0 [(0, .ref 123), (1, .int x1)] [] μ := by
  refine x_iconst (v := 0) (by decide) (dk zX11_slipsOf 0 rfl) ?_
  refine x_istore_n (k := 2) (l' := [(0, .ref 123), (1, .int x1), (2, .int 0)]) [1, 2, 0] rfl rfl (by decide) (dk zX11_slipsOf 1 rfl) ?_
  refine x_iconst (v := 0) (by decide) (dk zX11_slipsOf 2 rfl) ?_
  refine x_istore_n (k := 3) (l' := [(0, .ref 123), (1, .int x1), (2, .int 0), (3, .int 0)]) [1, 2, 3, 0] rfl rfl (by decide) (dk zX11_slipsOf 3 rfl) ?_
  exact h
set_option maxRecDepth 20000 in
set_option maxHeartbeats 2000000 in
theorem gX11_slipsOf_4 {E : EV} {Q : Po} {μ : Mem} {x1 : Int32} {x2 : Int32} {x3 : Int32} (h : (((μ.1 123 28) ≤ x3 → Q (some (.int x2)) μ) ∧ (¬ (μ.1 123 28) ≤ x3 → Ex E MX11_slipsOf Q 15 [(0, .ref 123), (1, .int x1), (2, .int x2), (3, .int x3), (4, .int 0)] [] μ))) : Ex E MX11_slipsOf Q 4 [(0, .ref 123), (1, .int x1), (2, .int x2), (3, .int x3)] [] μ := by
  refine x_iload_n 3 rfl rfl (dk zX11_slipsOf 4 rfl) ?_
  refine x_aload_n 0 rfl rfl (dk zX11_slipsOf 5 rfl) ?_
  refine gf11_28 rfl k123 (dk zX11_slipsOf 6 rfl) ?_
  refine x_icmp_ge (tgt := 73) (by decide) (dk zX11_slipsOf 7 rfl) (fun c1 => ?_) (fun c1 => ?_)
  · have hc1t := h.1 c1
    refine x_iload_n 2 rfl rfl (dk zX11_slipsOf 40 rfl) ?_
    exact x_iret (ty := .int) rfl rfl (dk zX11_slipsOf 41 rfl) hc1t
  · have hc1f := h.2 c1
    refine x_iconst (v := 0) (by decide) (dk zX11_slipsOf 8 rfl) ?_
    refine x_istoreG (l' := [(0, .ref 123), (1, .int x1), (2, .int x2), (3, .int x3), (4, .int 0)]) [1, 2, 3, 4, 0] rfl (by decide) (dk zX11_slipsOf 9 rfl) ?_
    exact hc1f
set_option maxRecDepth 20000 in
set_option maxHeartbeats 2000000 in
theorem gX11_slipsOf_15 {E : EV} {Q : Po} {μ : Mem} {x1 : Int32} {x2 : Int32} {x3 : Int32} {x4 : Int32} (h : ((11 ≤ x4 → vp_in x3 12 ∧ (((¬ (μ.1 144 x3.toNatClampNeg) = 0 → ∀ v4 : Int32, v4 = x2 + 0 → ∀ v5 : Int32, v5 = x3 + 1 → Ex E MX11_slipsOf Q 4 [(0, .ref 123), (1, .int x1), (2, .int v4), (3, .int v5)] [] μ) ∧ ((μ.1 144 x3.toNatClampNeg) = 0 → Sp E MX11_letsBy [.ref 123, .int x1] μ (fun v m6 => ∃ r7 : Int32, v = some (.int r7) ∧ ((r7 = 0 → ∀ v9 : Int32, v9 = x2 + 0 → ∀ v10 : Int32, v10 = x3 + 1 → Ex E MX11_slipsOf Q 4 [(0, .ref 123), (1, .int x1), (2, .int v9), (3, .int v10)] [] m6) ∧ (¬ r7 = 0 → ∀ v11 : Int32, v11 = x2 + 1 → ∀ v12 : Int32, v12 = x3 + 1 → Ex E MX11_slipsOf Q 4 [(0, .ref 123), (1, .int x1), (2, .int v11), (3, .int v12)] [] m6))))))) ∧ (¬ 11 ≤ x4 → Sp E MX11_listedAt [.ref 123, .int x3, .int x4] μ (fun v m13 => ∃ r14 : Int32, v = some (.int r14) ∧ vp_in x4 11 ∧ (∀ v16 : Int32, v16 = x4 + 1 → Ex E MX11_slipsOf Q 15 [(0, .ref 123), (1, .int x1), (2, .int x2), (3, .int x3), (4, .int v16)] [] (mI m13 145 x4.toNatClampNeg r14)))))) : Ex E MX11_slipsOf Q 15 [(0, .ref 123), (1, .int x1), (2, .int x2), (3, .int x3), (4, .int x4)] [] μ := by
  refine x_iload 4 rfl (dk zX11_slipsOf 10 rfl) ?_
  refine x_bipush (v := 11) (by decide) (dk zX11_slipsOf 11 rfl) ?_
  refine x_icmp_ge (tgt := 42) (by decide) (dk zX11_slipsOf 12 rfl) (fun c1 => ?_) (fun c1 => ?_)
  · have hc1t := h.1 c1
    refine x_iload_n 2 rfl rfl (dk zX11_slipsOf 23 rfl) ?_
    refine x_aload_n 0 rfl rfl (dk zX11_slipsOf 24 rfl) ?_
    refine gf11_31 (r := 144) rfl k123 r123_31 (dk zX11_slipsOf 25 rfl) ?_
    refine x_iload_n 3 rfl rfl (dk zX11_slipsOf 26 rfl) ?_
    have b2 := hc1t.1
    have hb2 := hc1t.2
    refine y_zald (j := x3.toNatClampNeg) k144 l144 b2 rfl (dk zX11_slipsOf 27 rfl) ?_
    refine x_if_ne (tgt := 64) (by decide) (dk zX11_slipsOf 28 rfl) (fun c3 => ?_) (fun c3 => ?_)
    · have hc3t := hb2.1 c3
      refine x_iconst (v := 0) (by decide) (dk zX11_slipsOf 35 rfl) ?_
      refine x_iadd (dk zX11_slipsOf 36 rfl) ?_
      refine x_topi (fun v4 ev4 => ?_)
      have hv4 := hc3t v4 ev4
      refine x_istore_n (k := 2) (l' := [(0, .ref 123), (1, .int x1), (2, .int v4), (3, .int x3), (4, .int x4)]) [1, 2, 0, 3, 4] rfl rfl (by decide) (dk zX11_slipsOf 37 rfl) ?_
      obtain ⟨v5, ev5⟩ : ∃ y : Int32, y = x3 + 1 := ⟨_, rfl⟩
      have hv5 := hv4 v5 ev5
      refine x_iinc (v := v5) (l' := [(0, .ref 123), (1, .int x1), (2, .int v4), (3, .int v5), (4, .int x4)]) 3 rfl (by rw [ev5]; rfl) [1, 2, 3, 0, 4] rfl (by decide) (dk zX11_slipsOf 38 rfl) ?_
      refine x_goto (tgt := 4) (by decide) (dk zX11_slipsOf 39 rfl) ?_
      exact x_sub [0, 1, 2, 3] rfl hv5
    · have hc3f := hb2.2 c3
      refine x_aload_n 0 rfl rfl (dk zX11_slipsOf 29 rfl) ?_
      refine x_iload_n 1 rfl rfl (dk zX11_slipsOf 30 rfl) ?_
      refine x_callV (as := [.int x1]) (o := 123) (ci := 11) (st := [.int x2]) rfl okRX11_321 npX11_letsBy ⟨Nat.le_of_ble_eq_true rfl, Nat.le_of_ble_eq_true rfl⟩ k123 (by decide) rfl (Nat.le_of_ble_eq_true rfl) (dk zX11_slipsOf 31 rfl) ?_
      refine hc3f.mono ?_
      rintro _ m6 ⟨r7, rfl, hm6⟩
      show Ex E MX11_slipsOf Q 57 [(0, .ref 123), (1, .int x1), (2, .int x2), (3, .int x3), (4, .int x4)] [.int r7, .int x2] m6
      refine x_if_eq (tgt := 64) (by decide) (dk zX11_slipsOf 32 rfl) (fun c8 => ?_) (fun c8 => ?_)
      · have hc8t := hm6.1 c8
        refine x_iconst (v := 0) (by decide) (dk zX11_slipsOf 35 rfl) ?_
        refine x_iadd (dk zX11_slipsOf 36 rfl) ?_
        refine x_topi (fun v9 ev9 => ?_)
        have hv9 := hc8t v9 ev9
        refine x_istore_n (k := 2) (l' := [(0, .ref 123), (1, .int x1), (2, .int v9), (3, .int x3), (4, .int x4)]) [1, 2, 0, 3, 4] rfl rfl (by decide) (dk zX11_slipsOf 37 rfl) ?_
        obtain ⟨v10, ev10⟩ : ∃ y : Int32, y = x3 + 1 := ⟨_, rfl⟩
        have hv10 := hv9 v10 ev10
        refine x_iinc (v := v10) (l' := [(0, .ref 123), (1, .int x1), (2, .int v9), (3, .int v10), (4, .int x4)]) 3 rfl (by rw [ev10]; rfl) [1, 2, 3, 0, 4] rfl (by decide) (dk zX11_slipsOf 38 rfl) ?_
        refine x_goto (tgt := 4) (by decide) (dk zX11_slipsOf 39 rfl) ?_
        exact x_sub [0, 1, 2, 3] rfl hv10
      · have hc8f := hm6.2 c8
        refine x_iconst (v := 1) (by decide) (dk zX11_slipsOf 33 rfl) ?_
        refine x_goto (tgt := 65) (by decide) (dk zX11_slipsOf 34 rfl) ?_
        refine x_iadd (dk zX11_slipsOf 36 rfl) ?_
        refine x_topi (fun v11 ev11 => ?_)
        have hv11 := hc8f v11 ev11
        refine x_istore_n (k := 2) (l' := [(0, .ref 123), (1, .int x1), (2, .int v11), (3, .int x3), (4, .int x4)]) [1, 2, 0, 3, 4] rfl rfl (by decide) (dk zX11_slipsOf 37 rfl) ?_
        obtain ⟨v12, ev12⟩ : ∃ y : Int32, y = x3 + 1 := ⟨_, rfl⟩
        have hv12 := hv11 v12 ev12
        refine x_iinc (v := v12) (l' := [(0, .ref 123), (1, .int x1), (2, .int v11), (3, .int v12), (4, .int x4)]) 3 rfl (by rw [ev12]; rfl) [1, 2, 3, 0, 4] rfl (by decide) (dk zX11_slipsOf 38 rfl) ?_
        refine x_goto (tgt := 4) (by decide) (dk zX11_slipsOf 39 rfl) ?_
        exact x_sub [0, 1, 2, 3] rfl hv12
  · have hc1f := h.2 c1
    refine x_aload_n 0 rfl rfl (dk zX11_slipsOf 13 rfl) ?_
    refine gf11_32 (r := 145) rfl k123 r123_32 (dk zX11_slipsOf 14 rfl) ?_
    refine x_iload 4 rfl (dk zX11_slipsOf 15 rfl) ?_
    refine x_aload_n 0 rfl rfl (dk zX11_slipsOf 16 rfl) ?_
    refine x_iload_n 3 rfl rfl (dk zX11_slipsOf 17 rfl) ?_
    refine x_iload 4 rfl (dk zX11_slipsOf 18 rfl) ?_
    refine x_callV (as := [.int x3, .int x4]) (o := 123) (ci := 11) (st := [.int x4, .ref 145]) rfl okRX11_313 npX11_listedAt ⟨Nat.le_of_ble_eq_true rfl, Nat.le_of_ble_eq_true rfl⟩ k123 (by decide) rfl (Nat.le_of_ble_eq_true rfl) (dk zX11_slipsOf 19 rfl) ?_
    refine hc1f.mono ?_
    rintro _ m13 ⟨r14, rfl, hm13⟩
    show Ex E MX11_slipsOf Q 35 [(0, .ref 123), (1, .int x1), (2, .int x2), (3, .int x3), (4, .int x4)] [.int r14, .int x4, .ref 145] m13
    have b15 := hm13.1
    have hb15 := hm13.2
    refine y_iast (j := x4.toNatClampNeg) k145 l145 b15 rfl (dk zX11_slipsOf 20 rfl) ?_
    obtain ⟨v16, ev16⟩ : ∃ y : Int32, y = x4 + 1 := ⟨_, rfl⟩
    have hv16 := hb15 v16 ev16
    refine x_iinc (v := v16) (l' := [(0, .ref 123), (1, .int x1), (2, .int x2), (3, .int x3), (4, .int v16)]) 4 rfl (by rw [ev16]; rfl) [1, 2, 3, 4, 0] rfl (by decide) (dk zX11_slipsOf 21 rfl) ?_
    refine x_goto (tgt := 15) (by decide) (dk zX11_slipsOf 22 rfl) ?_
    exact hv16
set_option maxRecDepth 20000 in
set_option maxHeartbeats 2000000 in
theorem gX11_slips_0 {E : EV} {Q : Po} {μ : Mem} {x1 : Int32} (h : Sp E MX11_arePlaces [.int x1] μ (fun v m1 => ∃ r2 : Int32, v = some (.int r2) ∧ ((r2 = 0 → Q (some (.int ((-2)))) m1) ∧ (¬ r2 = 0 → Sp E MX11_slipsOf [.ref 123, .int x1] m1 (fun v m4 => ∃ r5 : Int32, v = some (.int r5) ∧ Q (some (.int r5)) m4))))) : Ex E MX11_slips Q 0 [(0, .ref 123), (1, .int x1)] [] μ := by
  refine x_iload_n 1 rfl rfl (dk zX11_slips 0 rfl) ?_
  refine x_callS (as := [.int x1]) (st := []) rfl okRX11_318 npX11_arePlaces ⟨Nat.le_of_ble_eq_true rfl, Nat.le_of_ble_eq_true rfl⟩ (Nat.le_of_ble_eq_true rfl) (dk zX11_slips 1 rfl) ?_
  refine h.mono ?_
  rintro _ m1 ⟨r2, rfl, hm1⟩
  show Ex E MX11_slips Q 4 [(0, .ref 123), (1, .int x1)] [.int r2] m1
  refine x_if_eq (tgt := 15) (by decide) (dk zX11_slips 2 rfl) (fun c3 => ?_) (fun c3 => ?_)
  · have hc3t := hm1.1 c3
    refine x_bipush (v := -2) (by decide) (dk zX11_slips 7 rfl) ?_
    exact x_iret (ty := .int) rfl rfl (dk zX11_slips 8 rfl) hc3t
  · have hc3f := hm1.2 c3
    refine x_aload_n 0 rfl rfl (dk zX11_slips 3 rfl) ?_
    refine x_iload_n 1 rfl rfl (dk zX11_slips 4 rfl) ?_
    refine x_callV (as := [.int x1]) (o := 123) (ci := 11) (st := []) rfl okRX11_324 npX11_slipsOf ⟨Nat.le_of_ble_eq_true rfl, Nat.le_of_ble_eq_true rfl⟩ k123 (by decide) rfl (Nat.le_of_ble_eq_true rfl) (dk zX11_slips 5 rfl) ?_
    refine hc3f.mono ?_
    rintro _ m4 ⟨r5, rfl, hm4⟩
    show Ex E MX11_slips Q 12 [(0, .ref 123), (1, .int x1)] [.int r5] m4
    refine x_goto (tgt := 17) (by decide) (dk zX11_slips 6 rfl) ?_
    exact x_iret (ty := .int) rfl rfl (dk zX11_slips 8 rfl) hm4
set_option maxRecDepth 20000 in
set_option maxHeartbeats 2000000 in
theorem gX11_ones_0 {E : EV} {Q : Po} {μ : Mem} {x0 : Int32} (h : Ex E MX11_ones Q 4 [(0, .int x0), (1, .int 0), (2, .int x0)] [] μ) : Ex E MX11_ones Q 0 [(0, .int x0)] [] μ := by
  refine x_iconst (v := 0) (by decide) (dk zX11_ones 0 rfl) ?_
  refine x_istore_n (k := 1) (l' := [(0, .int x0), (1, .int 0)]) [1, 0] rfl rfl (by decide) (dk zX11_ones 1 rfl) ?_
  refine x_iload_n 0 rfl rfl (dk zX11_ones 2 rfl) ?_
  refine x_istore_n (k := 2) (l' := [(0, .int x0), (1, .int 0), (2, .int x0)]) [1, 2, 0] rfl rfl (by decide) (dk zX11_ones 3 rfl) ?_
  exact h
set_option maxRecDepth 20000 in
set_option maxHeartbeats 2000000 in
theorem gX11_ones_4 {E : EV} {Q : Po} {μ : Mem} {x0 : Int32} {x1 : Int32} {x2 : Int32} (h : ((x2 = 0 → Q (some (.int x1)) μ) ∧ (¬ x2 = 0 → ∀ v2 : Int32, v2 = x1 + 1 → ∀ v3 : Int32, v3 = x2 &&& (x2 - 1) → Ex E MX11_ones Q 4 [(0, .int x0), (1, .int v2), (2, .int v3)] [] μ))) : Ex E MX11_ones Q 4 [(0, .int x0), (1, .int x1), (2, .int x2)] [] μ := by
  refine x_iload_n 2 rfl rfl (dk zX11_ones 4 rfl) ?_
  refine x_if_eq (tgt := 20) (by decide) (dk zX11_ones 5 rfl) (fun c1 => ?_) (fun c1 => ?_)
  · have hc1t := h.1 c1
    refine x_iload_n 1 rfl rfl (dk zX11_ones 14 rfl) ?_
    exact x_iret (ty := .int) rfl rfl (dk zX11_ones 15 rfl) hc1t
  · have hc1f := h.2 c1
    obtain ⟨v2, ev2⟩ : ∃ y : Int32, y = x1 + 1 := ⟨_, rfl⟩
    have hv2 := hc1f v2 ev2
    refine x_iinc (v := v2) (l' := [(0, .int x0), (1, .int v2), (2, .int x2)]) 1 rfl (by rw [ev2]; rfl) [1, 0, 2] rfl (by decide) (dk zX11_ones 6 rfl) ?_
    refine x_iload_n 2 rfl rfl (dk zX11_ones 7 rfl) ?_
    refine x_iload_n 2 rfl rfl (dk zX11_ones 8 rfl) ?_
    refine x_iconst (v := 1) (by decide) (dk zX11_ones 9 rfl) ?_
    refine x_isub (dk zX11_ones 10 rfl) ?_
    refine x_iand (dk zX11_ones 11 rfl) ?_
    refine x_topi (fun v3 ev3 => ?_)
    have hv3 := hv2 v3 ev3
    refine x_istore_n (k := 2) (l' := [(0, .int x0), (1, .int v2), (2, .int v3)]) [1, 2, 0] rfl rfl (by decide) (dk zX11_ones 12 rfl) ?_
    refine x_goto (tgt := 4) (by decide) (dk zX11_ones 13 rfl) ?_
    exact hv3
set_option maxRecDepth 20000 in
set_option maxHeartbeats 2000000 in
theorem gX11_fewestNow_0 {E : EV} {Q : Po} {μ : Mem}  (h : Ex E MX11_fewestNow Q 4 [(0, .ref 123), (1, .int ((-1))), (2, .int 0)] [] μ) : Ex E MX11_fewestNow Q 0 [(0, .ref 123)] [] μ := by
  refine x_iconst (v := -1) (by decide) (dk zX11_fewestNow 0 rfl) ?_
  refine x_istore_n (k := 1) (l' := [(0, .ref 123), (1, .int ((-1)))]) [1, 0] rfl rfl (by decide) (dk zX11_fewestNow 1 rfl) ?_
  refine x_iconst (v := 0) (by decide) (dk zX11_fewestNow 2 rfl) ?_
  refine x_istore_n (k := 2) (l' := [(0, .ref 123), (1, .int ((-1))), (2, .int 0)]) [1, 2, 0] rfl rfl (by decide) (dk zX11_fewestNow 3 rfl) ?_
  exact h
set_option maxRecDepth 20000 in
set_option maxHeartbeats 2000000 in
theorem gX11_fewestNow_4 {E : EV} {Q : Po} {μ : Mem} {x1 : Int32} {x2 : Int32} (h : ((2048 ≤ x2 → Q (some (.int x1)) μ) ∧ (¬ 2048 ≤ x2 → ((x1 = ((-1)) → Sp E MX11_slipsOf [.ref 123, .int x2] μ (fun v m3 => ∃ r4 : Int32, v = some (.int r4) ∧ ((¬ r4 = 0 → ∀ v6 : Int32, v6 = x2 + 1 → Ex E MX11_fewestNow Q 4 [(0, .ref 123), (1, .int x1), (2, .int v6)] [] m3) ∧ (r4 = 0 → ∀ v7 : Int32, v7 = x2 + 1 → Ex E MX11_fewestNow Q 4 [(0, .ref 123), (1, .int x2), (2, .int v7)] [] m3)))) ∧ (¬ x1 = ((-1)) → Sp E MX11_ones [.int x2] μ (fun v m8 => ∃ r9 : Int32, v = some (.int r9) ∧ Sp E MX11_ones [.int x1] m8 (fun v m10 => ∃ r11 : Int32, v = some (.int r11) ∧ ((r11 ≤ r9 → ∀ v13 : Int32, v13 = x2 + 1 → Ex E MX11_fewestNow Q 4 [(0, .ref 123), (1, .int x1), (2, .int v13)] [] m10) ∧ (¬ r11 ≤ r9 → Sp E MX11_slipsOf [.ref 123, .int x2] m10 (fun v m14 => ∃ r15 : Int32, v = some (.int r15) ∧ ((¬ r15 = 0 → ∀ v17 : Int32, v17 = x2 + 1 → Ex E MX11_fewestNow Q 4 [(0, .ref 123), (1, .int x1), (2, .int v17)] [] m14) ∧ (r15 = 0 → ∀ v18 : Int32, v18 = x2 + 1 → Ex E MX11_fewestNow Q 4 [(0, .ref 123), (1, .int x2), (2, .int v18)] [] m14)))))))))))) : Ex E MX11_fewestNow Q 4 [(0, .ref 123), (1, .int x1), (2, .int x2)] [] μ := by
  refine x_iload_n 2 rfl rfl (dk zX11_fewestNow 4 rfl) ?_
  refine x_sipush (v := 2048) (by decide) (dk zX11_fewestNow 5 rfl) ?_
  refine x_icmp_ge (tgt := 57) (by decide) (dk zX11_fewestNow 6 rfl) (fun c1 => ?_) (fun c1 => ?_)
  · have hc1t := h.1 c1
    refine x_iload_n 1 rfl rfl (dk zX11_fewestNow 31 rfl) ?_
    exact x_iret (ty := .int) rfl rfl (dk zX11_fewestNow 32 rfl) hc1t
  · have hc1f := h.2 c1
    refine x_iload_n 1 rfl rfl (dk zX11_fewestNow 7 rfl) ?_
    refine x_iconst (v := -1) (by decide) (dk zX11_fewestNow 8 rfl) ?_
    refine x_icmp_eq (tgt := 27) (by decide) (dk zX11_fewestNow 9 rfl) (fun c2 => ?_) (fun c2 => ?_)
    · have hc2t := hc1f.1 c2
      refine x_iconst (v := 1) (by decide) (dk zX11_fewestNow 15 rfl) ?_
      refine x_goto (tgt := 32) (by decide) (dk zX11_fewestNow 16 rfl) ?_
      refine x_istore_n (k := 3) (l' := [(0, .ref 123), (1, .int x1), (2, .int x2), (3, .int 1)]) [1, 2, 3, 0] rfl rfl (by decide) (dk zX11_fewestNow 18 rfl) ?_
      refine x_iload_n 3 rfl rfl (dk zX11_fewestNow 19 rfl) ?_
      refine x_if_eq (tgt := 49) (by decide) (dk zX11_fewestNow 20 rfl) (fun c => absurd c (by decide)) (fun _ => ?_)
      refine x_aload_n 0 rfl rfl (dk zX11_fewestNow 21 rfl) ?_
      refine x_iload_n 2 rfl rfl (dk zX11_fewestNow 22 rfl) ?_
      refine x_callV (as := [.int x2]) (o := 123) (ci := 11) (st := []) rfl okRX11_324 npX11_slipsOf ⟨Nat.le_of_ble_eq_true rfl, Nat.le_of_ble_eq_true rfl⟩ k123 (by decide) rfl (Nat.le_of_ble_eq_true rfl) (dk zX11_fewestNow 23 rfl) ?_
      refine hc2t.mono ?_
      rintro _ m3 ⟨r4, rfl, hm3⟩
      show Ex E MX11_fewestNow Q 42 [(0, .ref 123), (1, .int x1), (2, .int x2), (3, .int 1)] [.int r4] m3
      refine x_if_ne (tgt := 49) (by decide) (dk zX11_fewestNow 24 rfl) (fun c5 => ?_) (fun c5 => ?_)
      · have hc5t := hm3.1 c5
        refine x_iload_n 1 rfl rfl (dk zX11_fewestNow 27 rfl) ?_
        refine x_istore_n (k := 1) (l' := [(0, .ref 123), (1, .int x1), (2, .int x2), (3, .int 1)]) [1, 0, 2, 3] rfl rfl (by decide) (dk zX11_fewestNow 28 rfl) ?_
        obtain ⟨v6, ev6⟩ : ∃ y : Int32, y = x2 + 1 := ⟨_, rfl⟩
        have hv6 := hc5t v6 ev6
        refine x_iinc (v := v6) (l' := [(0, .ref 123), (1, .int x1), (2, .int v6), (3, .int 1)]) 2 rfl (by rw [ev6]; rfl) [1, 2, 0, 3] rfl (by decide) (dk zX11_fewestNow 29 rfl) ?_
        refine x_goto (tgt := 4) (by decide) (dk zX11_fewestNow 30 rfl) ?_
        exact x_sub [0, 1, 2] rfl hv6
      · have hc5f := hm3.2 c5
        refine x_iload_n 2 rfl rfl (dk zX11_fewestNow 25 rfl) ?_
        refine x_goto (tgt := 50) (by decide) (dk zX11_fewestNow 26 rfl) ?_
        refine x_istore_n (k := 1) (l' := [(0, .ref 123), (1, .int x2), (2, .int x2), (3, .int 1)]) [1, 0, 2, 3] rfl rfl (by decide) (dk zX11_fewestNow 28 rfl) ?_
        obtain ⟨v7, ev7⟩ : ∃ y : Int32, y = x2 + 1 := ⟨_, rfl⟩
        have hv7 := hc5f v7 ev7
        refine x_iinc (v := v7) (l' := [(0, .ref 123), (1, .int x2), (2, .int v7), (3, .int 1)]) 2 rfl (by rw [ev7]; rfl) [1, 2, 0, 3] rfl (by decide) (dk zX11_fewestNow 29 rfl) ?_
        refine x_goto (tgt := 4) (by decide) (dk zX11_fewestNow 30 rfl) ?_
        exact x_sub [0, 1, 2] rfl hv7
    · have hc2f := hc1f.2 c2
      refine x_iload_n 2 rfl rfl (dk zX11_fewestNow 10 rfl) ?_
      refine x_callS (as := [.int x2]) (st := []) rfl okRX11_327 npX11_ones ⟨Nat.le_of_ble_eq_true rfl, Nat.le_of_ble_eq_true rfl⟩ (Nat.le_of_ble_eq_true rfl) (dk zX11_fewestNow 11 rfl) ?_
      refine hc2f.mono ?_
      rintro _ m8 ⟨r9, rfl, hm8⟩
      show Ex E MX11_fewestNow Q 20 [(0, .ref 123), (1, .int x1), (2, .int x2)] [.int r9] m8
      refine x_iload_n 1 rfl rfl (dk zX11_fewestNow 12 rfl) ?_
      refine x_callS (as := [.int x1]) (st := [.int r9]) rfl okRX11_327 npX11_ones ⟨Nat.le_of_ble_eq_true rfl, Nat.le_of_ble_eq_true rfl⟩ (Nat.le_of_ble_eq_true rfl) (dk zX11_fewestNow 13 rfl) ?_
      refine hm8.mono ?_
      rintro _ m10 ⟨r11, rfl, hm10⟩
      show Ex E MX11_fewestNow Q 24 [(0, .ref 123), (1, .int x1), (2, .int x2)] [.int r11, .int r9] m10
      refine x_icmp_ge (tgt := 31) (by decide) (dk zX11_fewestNow 14 rfl) (fun c12 => ?_) (fun c12 => ?_)
      · have hc12t := hm10.1 c12
        refine x_iconst (v := 0) (by decide) (dk zX11_fewestNow 17 rfl) ?_
        refine x_istore_n (k := 3) (l' := [(0, .ref 123), (1, .int x1), (2, .int x2), (3, .int 0)]) [1, 2, 3, 0] rfl rfl (by decide) (dk zX11_fewestNow 18 rfl) ?_
        refine x_iload_n 3 rfl rfl (dk zX11_fewestNow 19 rfl) ?_
        refine x_if_eq (tgt := 49) (by decide) (dk zX11_fewestNow 20 rfl) (fun _ => ?_) (fun c => absurd c (by decide))
        refine x_iload_n 1 rfl rfl (dk zX11_fewestNow 27 rfl) ?_
        refine x_istore_n (k := 1) (l' := [(0, .ref 123), (1, .int x1), (2, .int x2), (3, .int 0)]) [1, 0, 2, 3] rfl rfl (by decide) (dk zX11_fewestNow 28 rfl) ?_
        obtain ⟨v13, ev13⟩ : ∃ y : Int32, y = x2 + 1 := ⟨_, rfl⟩
        have hv13 := hc12t v13 ev13
        refine x_iinc (v := v13) (l' := [(0, .ref 123), (1, .int x1), (2, .int v13), (3, .int 0)]) 2 rfl (by rw [ev13]; rfl) [1, 2, 0, 3] rfl (by decide) (dk zX11_fewestNow 29 rfl) ?_
        refine x_goto (tgt := 4) (by decide) (dk zX11_fewestNow 30 rfl) ?_
        exact x_sub [0, 1, 2] rfl hv13
      · have hc12f := hm10.2 c12
        refine x_iconst (v := 1) (by decide) (dk zX11_fewestNow 15 rfl) ?_
        refine x_goto (tgt := 32) (by decide) (dk zX11_fewestNow 16 rfl) ?_
        refine x_istore_n (k := 3) (l' := [(0, .ref 123), (1, .int x1), (2, .int x2), (3, .int 1)]) [1, 2, 3, 0] rfl rfl (by decide) (dk zX11_fewestNow 18 rfl) ?_
        refine x_iload_n 3 rfl rfl (dk zX11_fewestNow 19 rfl) ?_
        refine x_if_eq (tgt := 49) (by decide) (dk zX11_fewestNow 20 rfl) (fun c => absurd c (by decide)) (fun _ => ?_)
        refine x_aload_n 0 rfl rfl (dk zX11_fewestNow 21 rfl) ?_
        refine x_iload_n 2 rfl rfl (dk zX11_fewestNow 22 rfl) ?_
        refine x_callV (as := [.int x2]) (o := 123) (ci := 11) (st := []) rfl okRX11_324 npX11_slipsOf ⟨Nat.le_of_ble_eq_true rfl, Nat.le_of_ble_eq_true rfl⟩ k123 (by decide) rfl (Nat.le_of_ble_eq_true rfl) (dk zX11_fewestNow 23 rfl) ?_
        refine hc12f.mono ?_
        rintro _ m14 ⟨r15, rfl, hm14⟩
        show Ex E MX11_fewestNow Q 42 [(0, .ref 123), (1, .int x1), (2, .int x2), (3, .int 1)] [.int r15] m14
        refine x_if_ne (tgt := 49) (by decide) (dk zX11_fewestNow 24 rfl) (fun c16 => ?_) (fun c16 => ?_)
        · have hc16t := hm14.1 c16
          refine x_iload_n 1 rfl rfl (dk zX11_fewestNow 27 rfl) ?_
          refine x_istore_n (k := 1) (l' := [(0, .ref 123), (1, .int x1), (2, .int x2), (3, .int 1)]) [1, 0, 2, 3] rfl rfl (by decide) (dk zX11_fewestNow 28 rfl) ?_
          obtain ⟨v17, ev17⟩ : ∃ y : Int32, y = x2 + 1 := ⟨_, rfl⟩
          have hv17 := hc16t v17 ev17
          refine x_iinc (v := v17) (l' := [(0, .ref 123), (1, .int x1), (2, .int v17), (3, .int 1)]) 2 rfl (by rw [ev17]; rfl) [1, 2, 0, 3] rfl (by decide) (dk zX11_fewestNow 29 rfl) ?_
          refine x_goto (tgt := 4) (by decide) (dk zX11_fewestNow 30 rfl) ?_
          exact x_sub [0, 1, 2] rfl hv17
        · have hc16f := hm14.2 c16
          refine x_iload_n 2 rfl rfl (dk zX11_fewestNow 25 rfl) ?_
          refine x_goto (tgt := 50) (by decide) (dk zX11_fewestNow 26 rfl) ?_
          refine x_istore_n (k := 1) (l' := [(0, .ref 123), (1, .int x2), (2, .int x2), (3, .int 1)]) [1, 0, 2, 3] rfl rfl (by decide) (dk zX11_fewestNow 28 rfl) ?_
          obtain ⟨v18, ev18⟩ : ∃ y : Int32, y = x2 + 1 := ⟨_, rfl⟩
          have hv18 := hc16f v18 ev18
          refine x_iinc (v := v18) (l' := [(0, .ref 123), (1, .int x2), (2, .int v18), (3, .int 1)]) 2 rfl (by rw [ev18]; rfl) [1, 2, 0, 3] rfl (by decide) (dk zX11_fewestNow 29 rfl) ?_
          refine x_goto (tgt := 4) (by decide) (dk zX11_fewestNow 30 rfl) ?_
          exact x_sub [0, 1, 2] rfl hv18
set_option maxRecDepth 20000 in
set_option maxHeartbeats 2000000 in
theorem gX11_fewest_0 {E : EV} {Q : Po} {μ : Mem}  (h : Sp E MX11_fewestNow [.ref 123] μ (fun v m1 => ∃ r2 : Int32, v = some (.int r2) ∧ Q (some (.int r2)) m1)) : Ex E MX11_fewest Q 0 [(0, .ref 123)] [] μ := by
  refine x_aload_n 0 rfl rfl (dk zX11_fewest 0 rfl) ?_
  refine x_callV (as := []) (o := 123) (ci := 11) (st := []) rfl okRX11_330 npX11_fewestNow ⟨Nat.le_of_ble_eq_true rfl, Nat.le_of_ble_eq_true rfl⟩ k123 (by decide) rfl (Nat.le_of_ble_eq_true rfl) (dk zX11_fewest 1 rfl) ?_
  refine h.mono ?_
  rintro _ m1 ⟨r2, rfl, hm1⟩
  show Ex E MX11_fewest Q 4 [(0, .ref 123)] [.int r2] m1
  exact x_iret (ty := .int) rfl rfl (dk zX11_fewest 2 rfl) hm1
set_option maxRecDepth 20000 in
set_option maxHeartbeats 2000000 in
theorem gX11_joins_0 {E : EV} {Q : Po} {μ : Mem} {x1 : Int32} {x2 : Int32} (h : ((¬ x1 = x2 → vp_in ((8 * x1) + x2) 64 ∧ (Q none (mI μ 146 (((8 * x1) + x2).toNatClampNeg) 1))) ∧ (x1 = x2 → vp_in ((8 * x1) + x2) 64 ∧ (Q none (mI μ 146 (((8 * x1) + x2).toNatClampNeg) 0))))) : Ex E MX11_joins Q 0 [(0, .ref 123), (1, .int x1), (2, .int x2)] [] μ := by
  refine x_aload_n 0 rfl rfl (dk zX11_joins 0 rfl) ?_
  refine gf11_33 (r := 146) rfl k123 r123_33 (dk zX11_joins 1 rfl) ?_
  refine x_bipush (v := 8) (by decide) (dk zX11_joins 2 rfl) ?_
  refine x_iload_n 1 rfl rfl (dk zX11_joins 3 rfl) ?_
  refine x_imul (dk zX11_joins 4 rfl) ?_
  refine x_iload_n 2 rfl rfl (dk zX11_joins 5 rfl) ?_
  refine x_iadd (dk zX11_joins 6 rfl) ?_
  refine x_iload_n 1 rfl rfl (dk zX11_joins 7 rfl) ?_
  refine x_iload_n 2 rfl rfl (dk zX11_joins 8 rfl) ?_
  refine x_icmp_ne (tgt := 19) (by decide) (dk zX11_joins 9 rfl) (fun c1 => ?_) (fun c1 => ?_)
  · have hc1t := h.1 c1
    refine x_iconst (v := 1) (by decide) (dk zX11_joins 12 rfl) ?_
    have b2 := hc1t.1
    have hb2 := hc1t.2
    refine y_iast (j := ((8 * x1) + x2).toNatClampNeg) k146 l146 b2 rfl (dk zX11_joins 13 rfl) ?_
    exact x_vret rfl (dk zX11_joins 14 rfl) hb2
  · have hc1f := h.2 c1
    refine x_iconst (v := 0) (by decide) (dk zX11_joins 10 rfl) ?_
    refine x_goto (tgt := 20) (by decide) (dk zX11_joins 11 rfl) ?_
    have b3 := hc1f.1
    have hb3 := hc1f.2
    refine y_iast (j := ((8 * x1) + x2).toNatClampNeg) k146 l146 b3 rfl (dk zX11_joins 13 rfl) ?_
    exact x_vret rfl (dk zX11_joins 14 rfl) hb3
set_option maxRecDepth 20000 in
set_option maxHeartbeats 2000000 in
theorem gX11_findFar_0 {E : EV} {Q : Po} {μ : Mem} {x1 : Int32} {x2 : Int32} {x3 : Int32} (h : Ex E MX11_findFar Q 3 [(0, .ref 123), (1, .int x1), (2, .int x2), (3, .int x3), (4, .int 0)] [] μ) : Ex E MX11_findFar Q 0 [(0, .ref 123), (1, .int x1), (2, .int x2), (3, .int x3)] [] μ := by
  refine x_iconst (v := 0) (by decide) (dk zX11_findFar 0 rfl) ?_
  refine x_istoreG (l' := [(0, .ref 123), (1, .int x1), (2, .int x2), (3, .int x3), (4, .int 0)]) [1, 2, 3, 4, 0] rfl (by decide) (dk zX11_findFar 1 rfl) ?_
  exact h
set_option maxRecDepth 20000 in
set_option maxHeartbeats 2000000 in
theorem gX11_findFar_3 {E : EV} {Q : Po} {μ : Mem} {x1 : Int32} {x2 : Int32} {x3 : Int32} {x4 : Int32} (h : ((64 ≤ x4 → Ex E MX11_findFar Q 46 [(0, .ref 123), (1, .int x1), (2, .int x2), (3, .int x3), (4, .int 0)] [] μ) ∧ (¬ 64 ≤ x4 → ((¬ (x4 / 8) = (x4 - x4 / 8 * 8) → vp_in x4 64 ∧ (∀ v4 : Int32, v4 = x4 + 1 → Ex E MX11_findFar Q 3 [(0, .ref 123), (1, .int x1), (2, .int x2), (3, .int x3), (4, .int v4)] [] (mI μ 146 x4.toNatClampNeg 1000))) ∧ ((x4 / 8) = (x4 - x4 / 8 * 8) → vp_in x4 64 ∧ (∀ v6 : Int32, v6 = x4 + 1 → Ex E MX11_findFar Q 3 [(0, .ref 123), (1, .int x1), (2, .int x2), (3, .int x3), (4, .int v6)] [] (mI μ 146 x4.toNatClampNeg 0))))))) : Ex E MX11_findFar Q 3 [(0, .ref 123), (1, .int x1), (2, .int x2), (3, .int x3), (4, .int x4)] [] μ := by
  refine x_iload 4 rfl (dk zX11_findFar 2 rfl) ?_
  refine x_bipush (v := 64) (by decide) (dk zX11_findFar 3 rfl) ?_
  refine x_icmp_ge (tgt := 43) (by decide) (dk zX11_findFar 4 rfl) (fun c1 => ?_) (fun c1 => ?_)
  · have hc1t := h.1 c1
    refine x_iconst (v := 0) (by decide) (dk zX11_findFar 21 rfl) ?_
    refine x_istoreG (l' := [(0, .ref 123), (1, .int x1), (2, .int x2), (3, .int x3), (4, .int 0)]) [1, 2, 3, 4, 0] rfl (by decide) (dk zX11_findFar 22 rfl) ?_
    exact hc1t
  · have hc1f := h.2 c1
    refine x_aload_n 0 rfl rfl (dk zX11_findFar 5 rfl) ?_
    refine gf11_33 (r := 146) rfl k123 r123_33 (dk zX11_findFar 6 rfl) ?_
    refine x_iload 4 rfl (dk zX11_findFar 7 rfl) ?_
    refine x_iload 4 rfl (dk zX11_findFar 8 rfl) ?_
    refine x_bipush (v := 8) (by decide) (dk zX11_findFar 9 rfl) ?_
    refine x_idiv (by decide) (dk zX11_findFar 10 rfl) ?_
    refine x_iload 4 rfl (dk zX11_findFar 11 rfl) ?_
    refine x_bipush (v := 8) (by decide) (dk zX11_findFar 12 rfl) ?_
    refine x_irem (by decide) (dk zX11_findFar 13 rfl) ?_
    refine x_icmp_ne (tgt := 33) (by decide) (dk zX11_findFar 14 rfl) (fun c2 => ?_) (fun c2 => ?_)
    · have hc2t := hc1f.1 c2
      refine x_sipush (v := 1000) (by decide) (dk zX11_findFar 17 rfl) ?_
      have b3 := hc2t.1
      have hb3 := hc2t.2
      refine y_iast (j := x4.toNatClampNeg) k146 l146 b3 rfl (dk zX11_findFar 18 rfl) ?_
      obtain ⟨v4, ev4⟩ : ∃ y : Int32, y = x4 + 1 := ⟨_, rfl⟩
      have hv4 := hb3 v4 ev4
      refine x_iinc (v := v4) (l' := [(0, .ref 123), (1, .int x1), (2, .int x2), (3, .int x3), (4, .int v4)]) 4 rfl (by rw [ev4]; rfl) [1, 2, 3, 4, 0] rfl (by decide) (dk zX11_findFar 19 rfl) ?_
      refine x_goto (tgt := 3) (by decide) (dk zX11_findFar 20 rfl) ?_
      exact hv4
    · have hc2f := hc1f.2 c2
      refine x_iconst (v := 0) (by decide) (dk zX11_findFar 15 rfl) ?_
      refine x_goto (tgt := 36) (by decide) (dk zX11_findFar 16 rfl) ?_
      have b5 := hc2f.1
      have hb5 := hc2f.2
      refine y_iast (j := x4.toNatClampNeg) k146 l146 b5 rfl (dk zX11_findFar 18 rfl) ?_
      obtain ⟨v6, ev6⟩ : ∃ y : Int32, y = x4 + 1 := ⟨_, rfl⟩
      have hv6 := hb5 v6 ev6
      refine x_iinc (v := v6) (l' := [(0, .ref 123), (1, .int x1), (2, .int x2), (3, .int x3), (4, .int v6)]) 4 rfl (by rw [ev6]; rfl) [1, 2, 3, 4, 0] rfl (by decide) (dk zX11_findFar 19 rfl) ?_
      refine x_goto (tgt := 3) (by decide) (dk zX11_findFar 20 rfl) ?_
      exact hv6
set_option maxRecDepth 20000 in
set_option maxHeartbeats 2000000 in
theorem gX11_findFar_46 {E : EV} {Q : Po} {μ : Mem} {x1 : Int32} {x2 : Int32} {x3 : Int32} {x4 : Int32} (h : (((2 * (μ.1 123 8)) ≤ x4 → ((x2 < 0 → Ex E MX11_findFar Q 117 [(0, .ref 123), (1, .int x1), (2, .int x2), (3, .int x3), (4, .int 0)] [] μ) ∧ (¬ x2 < 0 → Sp E MX11_joins [.ref 123, .int x2, .int x3] μ (fun v m3 => v = none ∧ Sp E MX11_joins [.ref 123, .int x3, .int x2] m3 (fun v m4 => v = none ∧ Ex E MX11_findFar Q 117 [(0, .ref 123), (1, .int x1), (2, .int x2), (3, .int x3), (4, .int 0)] [] m4))))) ∧ (¬ (2 * (μ.1 123 8)) ≤ x4 → Sp E MX11_isShut [.ref 123, .int (x4 / 2)] μ (fun v m5 => ∃ r6 : Int32, v = some (.int r6) ∧ ((¬ r6 = 0 → ∀ v8 : Int32, v8 = x4 + 1 → Ex E MX11_findFar Q 46 [(0, .ref 123), (1, .int x1), (2, .int x2), (3, .int x3), (4, .int v8)] [] m5) ∧ (r6 = 0 → (((x4 / 2) = x1 → ∀ v10 : Int32, v10 = x4 + 1 → Ex E MX11_findFar Q 46 [(0, .ref 123), (1, .int x1), (2, .int x2), (3, .int x3), (4, .int v10)] [] m5) ∧ (¬ (x4 / 2) = x1 → Sp E MX11_start [.ref 123, .int x4] m5 (fun v m11 => ∃ r12 : Int32, v = some (.int r12) ∧ Sp E MX11_end [.ref 123, .int x4] m11 (fun v m13 => ∃ r14 : Int32, v = some (.int r14) ∧ Sp E MX11_joins [.ref 123, .int r12, .int r14] m13 (fun v m15 => v = none ∧ ∀ v16 : Int32, v16 = x4 + 1 → Ex E MX11_findFar Q 46 [(0, .ref 123), (1, .int x1), (2, .int x2), (3, .int x3), (4, .int v16)] [] m15))))))))))) : Ex E MX11_findFar Q 46 [(0, .ref 123), (1, .int x1), (2, .int x2), (3, .int x3), (4, .int x4)] [] μ := by
  refine x_iload 4 rfl (dk zX11_findFar 23 rfl) ?_
  refine x_iconst (v := 2) (by decide) (dk zX11_findFar 24 rfl) ?_
  refine x_aload_n 0 rfl rfl (dk zX11_findFar 25 rfl) ?_
  refine gf11_8 rfl k123 (dk zX11_findFar 26 rfl) ?_
  refine x_imul (dk zX11_findFar 27 rfl) ?_
  refine x_icmp_ge (tgt := 98) (by decide) (dk zX11_findFar 28 rfl) (fun c1 => ?_) (fun c1 => ?_)
  · have hc1t := h.1 c1
    refine x_iload_n 2 rfl rfl (dk zX11_findFar 50 rfl) ?_
    refine x_if_lt (tgt := 114) (by decide) (dk zX11_findFar 51 rfl) (fun c2 => ?_) (fun c2 => ?_)
    · have hc2t := hc1t.1 c2
      refine x_iconst (v := 0) (by decide) (dk zX11_findFar 60 rfl) ?_
      refine x_istoreG (l' := [(0, .ref 123), (1, .int x1), (2, .int x2), (3, .int x3), (4, .int 0)]) [1, 2, 3, 4, 0] rfl (by decide) (dk zX11_findFar 61 rfl) ?_
      exact hc2t
    · have hc2f := hc1t.2 c2
      refine x_aload_n 0 rfl rfl (dk zX11_findFar 52 rfl) ?_
      refine x_iload_n 2 rfl rfl (dk zX11_findFar 53 rfl) ?_
      refine x_iload_n 3 rfl rfl (dk zX11_findFar 54 rfl) ?_
      refine x_callV (as := [.int x2, .int x3]) (o := 123) (ci := 11) (st := []) rfl okRX11_333 npX11_joins ⟨Nat.le_of_ble_eq_true rfl, Nat.le_of_ble_eq_true rfl⟩ k123 (by decide) rfl (Nat.le_of_ble_eq_true rfl) (dk zX11_findFar 55 rfl) ?_
      refine hc2f.mono ?_
      rintro _ m3 ⟨rfl, hm3⟩
      show Ex E MX11_findFar Q 108 [(0, .ref 123), (1, .int x1), (2, .int x2), (3, .int x3), (4, .int x4)] [] m3
      refine x_aload_n 0 rfl rfl (dk zX11_findFar 56 rfl) ?_
      refine x_iload_n 3 rfl rfl (dk zX11_findFar 57 rfl) ?_
      refine x_iload_n 2 rfl rfl (dk zX11_findFar 58 rfl) ?_
      refine x_callV (as := [.int x3, .int x2]) (o := 123) (ci := 11) (st := []) rfl okRX11_333 npX11_joins ⟨Nat.le_of_ble_eq_true rfl, Nat.le_of_ble_eq_true rfl⟩ k123 (by decide) rfl (Nat.le_of_ble_eq_true rfl) (dk zX11_findFar 59 rfl) ?_
      refine hm3.mono ?_
      rintro _ m4 ⟨rfl, hm4⟩
      show Ex E MX11_findFar Q 114 [(0, .ref 123), (1, .int x1), (2, .int x2), (3, .int x3), (4, .int x4)] [] m4
      refine x_iconst (v := 0) (by decide) (dk zX11_findFar 60 rfl) ?_
      refine x_istoreG (l' := [(0, .ref 123), (1, .int x1), (2, .int x2), (3, .int x3), (4, .int 0)]) [1, 2, 3, 4, 0] rfl (by decide) (dk zX11_findFar 61 rfl) ?_
      exact hm4
  · have hc1f := h.2 c1
    refine x_aload_n 0 rfl rfl (dk zX11_findFar 29 rfl) ?_
    refine x_iload 4 rfl (dk zX11_findFar 30 rfl) ?_
    refine x_iconst (v := 2) (by decide) (dk zX11_findFar 31 rfl) ?_
    refine x_idiv (by decide) (dk zX11_findFar 32 rfl) ?_
    refine x_callV (as := [.int (x4 / 2)]) (o := 123) (ci := 11) (st := []) rfl okRX11_172 npX11_isShut ⟨Nat.le_of_ble_eq_true rfl, Nat.le_of_ble_eq_true rfl⟩ k123 (by decide) rfl (Nat.le_of_ble_eq_true rfl) (dk zX11_findFar 33 rfl) ?_
    refine hc1f.mono ?_
    rintro _ m5 ⟨r6, rfl, hm5⟩
    show Ex E MX11_findFar Q 65 [(0, .ref 123), (1, .int x1), (2, .int x2), (3, .int x3), (4, .int x4)] [.int r6] m5
    refine x_if_ne (tgt := 92) (by decide) (dk zX11_findFar 34 rfl) (fun c7 => ?_) (fun c7 => ?_)
    · have hc7t := hm5.1 c7
      obtain ⟨v8, ev8⟩ : ∃ y : Int32, y = x4 + 1 := ⟨_, rfl⟩
      have hv8 := hc7t v8 ev8
      refine x_iinc (v := v8) (l' := [(0, .ref 123), (1, .int x1), (2, .int x2), (3, .int x3), (4, .int v8)]) 4 rfl (by rw [ev8]; rfl) [1, 2, 3, 4, 0] rfl (by decide) (dk zX11_findFar 48 rfl) ?_
      refine x_goto (tgt := 46) (by decide) (dk zX11_findFar 49 rfl) ?_
      exact hv8
    · have hc7f := hm5.2 c7
      refine x_iload 4 rfl (dk zX11_findFar 35 rfl) ?_
      refine x_iconst (v := 2) (by decide) (dk zX11_findFar 36 rfl) ?_
      refine x_idiv (by decide) (dk zX11_findFar 37 rfl) ?_
      refine x_iload_n 1 rfl rfl (dk zX11_findFar 38 rfl) ?_
      refine x_icmp_eq (tgt := 92) (by decide) (dk zX11_findFar 39 rfl) (fun c9 => ?_) (fun c9 => ?_)
      · have hc9t := hc7f.1 c9
        obtain ⟨v10, ev10⟩ : ∃ y : Int32, y = x4 + 1 := ⟨_, rfl⟩
        have hv10 := hc9t v10 ev10
        refine x_iinc (v := v10) (l' := [(0, .ref 123), (1, .int x1), (2, .int x2), (3, .int x3), (4, .int v10)]) 4 rfl (by rw [ev10]; rfl) [1, 2, 3, 4, 0] rfl (by decide) (dk zX11_findFar 48 rfl) ?_
        refine x_goto (tgt := 46) (by decide) (dk zX11_findFar 49 rfl) ?_
        exact hv10
      · have hc9f := hc7f.2 c9
        refine x_aload_n 0 rfl rfl (dk zX11_findFar 40 rfl) ?_
        refine x_aload_n 0 rfl rfl (dk zX11_findFar 41 rfl) ?_
        refine x_iload 4 rfl (dk zX11_findFar 42 rfl) ?_
        refine x_callV (as := [.int x4]) (o := 123) (ci := 11) (st := [.ref 123]) rfl okRX11_166 npX11_start ⟨Nat.le_of_ble_eq_true rfl, Nat.le_of_ble_eq_true rfl⟩ k123 (by decide) rfl (Nat.le_of_ble_eq_true rfl) (dk zX11_findFar 43 rfl) ?_
        refine hc9f.mono ?_
        rintro _ m11 ⟨r12, rfl, hm11⟩
        show Ex E MX11_findFar Q 83 [(0, .ref 123), (1, .int x1), (2, .int x2), (3, .int x3), (4, .int x4)] [.int r12, .ref 123] m11
        refine x_aload_n 0 rfl rfl (dk zX11_findFar 44 rfl) ?_
        refine x_iload 4 rfl (dk zX11_findFar 45 rfl) ?_
        refine x_callV (as := [.int x4]) (o := 123) (ci := 11) (st := [.int r12, .ref 123]) rfl okRX11_202 npX11_end ⟨Nat.le_of_ble_eq_true rfl, Nat.le_of_ble_eq_true rfl⟩ k123 (by decide) rfl (Nat.le_of_ble_eq_true rfl) (dk zX11_findFar 46 rfl) ?_
        refine hm11.mono ?_
        rintro _ m13 ⟨r14, rfl, hm13⟩
        show Ex E MX11_findFar Q 89 [(0, .ref 123), (1, .int x1), (2, .int x2), (3, .int x3), (4, .int x4)] [.int r14, .int r12, .ref 123] m13
        refine x_callV (as := [.int r12, .int r14]) (o := 123) (ci := 11) (st := []) rfl okRX11_333 npX11_joins ⟨Nat.le_of_ble_eq_true rfl, Nat.le_of_ble_eq_true rfl⟩ k123 (by decide) rfl (Nat.le_of_ble_eq_true rfl) (dk zX11_findFar 47 rfl) ?_
        refine hm13.mono ?_
        rintro _ m15 ⟨rfl, hm15⟩
        show Ex E MX11_findFar Q 92 [(0, .ref 123), (1, .int x1), (2, .int x2), (3, .int x3), (4, .int x4)] [] m15
        obtain ⟨v16, ev16⟩ : ∃ y : Int32, y = x4 + 1 := ⟨_, rfl⟩
        have hv16 := hm15 v16 ev16
        refine x_iinc (v := v16) (l' := [(0, .ref 123), (1, .int x1), (2, .int x2), (3, .int x3), (4, .int v16)]) 4 rfl (by rw [ev16]; rfl) [1, 2, 3, 4, 0] rfl (by decide) (dk zX11_findFar 48 rfl) ?_
        refine x_goto (tgt := 46) (by decide) (dk zX11_findFar 49 rfl) ?_
        exact hv16
set_option maxRecDepth 20000 in
set_option maxHeartbeats 2000000 in
theorem gX11_findFar_117 {E : EV} {Q : Po} {μ : Mem} {x1 : Int32} {x2 : Int32} {x3 : Int32} {x4 : Int32} (h : ((8 ≤ x4 → Q none μ) ∧ (¬ 8 ≤ x4 → Ex E MX11_findFar Q 127 [(0, .ref 123), (1, .int x1), (2, .int x2), (3, .int x3), (4, .int x4), (5, .int 0)] [] μ))) : Ex E MX11_findFar Q 117 [(0, .ref 123), (1, .int x1), (2, .int x2), (3, .int x3), (4, .int x4)] [] μ := by
  refine x_iload 4 rfl (dk zX11_findFar 62 rfl) ?_
  refine x_bipush (v := 8) (by decide) (dk zX11_findFar 63 rfl) ?_
  refine x_icmp_ge (tgt := 212) (by decide) (dk zX11_findFar 64 rfl) (fun c1 => ?_) (fun c1 => ?_)
  · have hc1t := h.1 c1
    exact x_vret rfl (dk zX11_findFar 112 rfl) hc1t
  · have hc1f := h.2 c1
    refine x_iconst (v := 0) (by decide) (dk zX11_findFar 65 rfl) ?_
    refine x_istoreG (l' := [(0, .ref 123), (1, .int x1), (2, .int x2), (3, .int x3), (4, .int x4), (5, .int 0)]) [1, 2, 3, 4, 5, 0] rfl (by decide) (dk zX11_findFar 66 rfl) ?_
    exact hc1f
set_option maxRecDepth 20000 in
set_option maxHeartbeats 2000000 in
theorem gX11_findFar_127 {E : EV} {Q : Po} {μ : Mem} {x1 : Int32} {x2 : Int32} {x3 : Int32} {x4 : Int32} {x5 : Int32} (h : ((64 ≤ x5 → ∀ v2 : Int32, v2 = x4 + 1 → Ex E MX11_findFar Q 117 [(0, .ref 123), (1, .int x1), (2, .int x2), (3, .int x3), (4, .int v2)] [] μ) ∧ (¬ 64 ≤ x5 → vp_in ((8 * (x5 / 8)) + x4) 64 ∧ (vp_in ((8 * x4) + (x5 - x5 / 8 * 8)) 64 ∧ (∀ v5 : Int32, v5 = (μ.1 146 (((8 * (x5 / 8)) + x4).toNatClampNeg)) + (μ.1 146 (((8 * x4) + (x5 - x5 / 8 * 8)).toNatClampNeg)) → vp_in x5 64 ∧ ((((μ.1 146 x5.toNatClampNeg) ≤ v5 → ∀ v8 : Int32, v8 = μ.1 146 x5.toNatClampNeg → ∀ v9 : Int32, v9 = x5 + 1 → Ex E MX11_findFar Q 127 [(0, .ref 123), (1, .int x1), (2, .int x2), (3, .int x3), (4, .int x4), (5, .int v9)] [] (mI μ 146 x5.toNatClampNeg v8)) ∧ (¬ (μ.1 146 x5.toNatClampNeg) ≤ v5 → ∀ v10 : Int32, v10 = x5 + 1 → Ex E MX11_findFar Q 127 [(0, .ref 123), (1, .int x1), (2, .int x2), (3, .int x3), (4, .int x4), (5, .int v10)] [] (mI μ 146 x5.toNatClampNeg v5))))))))) : Ex E MX11_findFar Q 127 [(0, .ref 123), (1, .int x1), (2, .int x2), (3, .int x3), (4, .int x4), (5, .int x5)] [] μ := by
  refine x_iload 5 rfl (dk zX11_findFar 67 rfl) ?_
  refine x_bipush (v := 64) (by decide) (dk zX11_findFar 68 rfl) ?_
  refine x_icmp_ge (tgt := 206) (by decide) (dk zX11_findFar 69 rfl) (fun c1 => ?_) (fun c1 => ?_)
  · have hc1t := h.1 c1
    obtain ⟨v2, ev2⟩ : ∃ y : Int32, y = x4 + 1 := ⟨_, rfl⟩
    have hv2 := hc1t v2 ev2
    refine x_iinc (v := v2) (l' := [(0, .ref 123), (1, .int x1), (2, .int x2), (3, .int x3), (4, .int v2), (5, .int x5)]) 4 rfl (by rw [ev2]; rfl) [1, 2, 3, 4, 0, 5] rfl (by decide) (dk zX11_findFar 110 rfl) ?_
    refine x_goto (tgt := 117) (by decide) (dk zX11_findFar 111 rfl) ?_
    exact x_sub [0, 1, 2, 3, 4] rfl hv2
  · have hc1f := h.2 c1
    refine x_aload_n 0 rfl rfl (dk zX11_findFar 70 rfl) ?_
    refine gf11_33 (r := 146) rfl k123 r123_33 (dk zX11_findFar 71 rfl) ?_
    refine x_bipush (v := 8) (by decide) (dk zX11_findFar 72 rfl) ?_
    refine x_iload 5 rfl (dk zX11_findFar 73 rfl) ?_
    refine x_bipush (v := 8) (by decide) (dk zX11_findFar 74 rfl) ?_
    refine x_idiv (by decide) (dk zX11_findFar 75 rfl) ?_
    refine x_imul (dk zX11_findFar 76 rfl) ?_
    refine x_iload 4 rfl (dk zX11_findFar 77 rfl) ?_
    refine x_iadd (dk zX11_findFar 78 rfl) ?_
    have b3 := hc1f.1
    have hb3 := hc1f.2
    refine y_iald (j := ((8 * (x5 / 8)) + x4).toNatClampNeg) k146 l146 b3 rfl (dk zX11_findFar 79 rfl) ?_
    refine x_aload_n 0 rfl rfl (dk zX11_findFar 80 rfl) ?_
    refine gf11_33 (r := 146) rfl k123 r123_33 (dk zX11_findFar 81 rfl) ?_
    refine x_bipush (v := 8) (by decide) (dk zX11_findFar 82 rfl) ?_
    refine x_iload 4 rfl (dk zX11_findFar 83 rfl) ?_
    refine x_imul (dk zX11_findFar 84 rfl) ?_
    refine x_iload 5 rfl (dk zX11_findFar 85 rfl) ?_
    refine x_bipush (v := 8) (by decide) (dk zX11_findFar 86 rfl) ?_
    refine x_irem (by decide) (dk zX11_findFar 87 rfl) ?_
    refine x_iadd (dk zX11_findFar 88 rfl) ?_
    have b4 := hb3.1
    have hb4 := hb3.2
    refine y_iald (j := ((8 * x4) + (x5 - x5 / 8 * 8)).toNatClampNeg) k146 l146 b4 rfl (dk zX11_findFar 89 rfl) ?_
    refine x_iadd (dk zX11_findFar 90 rfl) ?_
    refine x_topi (fun v5 ev5 => ?_)
    have hv5 := hb4 v5 ev5
    refine x_istoreG (l' := [(0, .ref 123), (1, .int x1), (2, .int x2), (3, .int x3), (4, .int x4), (5, .int x5), (6, .int v5)]) [1, 2, 3, 4, 5, 6, 0] rfl (by decide) (dk zX11_findFar 91 rfl) ?_
    refine x_aload_n 0 rfl rfl (dk zX11_findFar 92 rfl) ?_
    refine gf11_33 (r := 146) rfl k123 r123_33 (dk zX11_findFar 93 rfl) ?_
    refine x_iload 5 rfl (dk zX11_findFar 94 rfl) ?_
    refine x_iload 6 rfl (dk zX11_findFar 95 rfl) ?_
    refine x_aload_n 0 rfl rfl (dk zX11_findFar 96 rfl) ?_
    refine gf11_33 (r := 146) rfl k123 r123_33 (dk zX11_findFar 97 rfl) ?_
    refine x_iload 5 rfl (dk zX11_findFar 98 rfl) ?_
    have b6 := hv5.1
    have hb6 := hv5.2
    refine y_iald (j := x5.toNatClampNeg) k146 l146 b6 rfl (dk zX11_findFar 99 rfl) ?_
    refine x_icmp_ge (tgt := 192) (by decide) (dk zX11_findFar 100 rfl) (fun c7 => ?_) (fun c7 => ?_)
    · have hc7t := hb6.1 c7
      refine x_aload_n 0 rfl rfl (dk zX11_findFar 103 rfl) ?_
      refine gf11_33 (r := 146) rfl k123 r123_33 (dk zX11_findFar 104 rfl) ?_
      refine x_iload 5 rfl (dk zX11_findFar 105 rfl) ?_
      refine y_iald (j := x5.toNatClampNeg) k146 l146 b6 rfl (dk zX11_findFar 106 rfl) ?_
      refine x_topi (fun v8 ev8 => ?_)
      have hv8 := hc7t v8 ev8
      refine y_iast (j := x5.toNatClampNeg) k146 l146 b6 rfl (dk zX11_findFar 107 rfl) ?_
      obtain ⟨v9, ev9⟩ : ∃ y : Int32, y = x5 + 1 := ⟨_, rfl⟩
      have hv9 := hv8 v9 ev9
      refine x_iinc (v := v9) (l' := [(0, .ref 123), (1, .int x1), (2, .int x2), (3, .int x3), (4, .int x4), (5, .int v9), (6, .int v5)]) 5 rfl (by rw [ev9]; rfl) [1, 2, 3, 4, 5, 0, 6] rfl (by decide) (dk zX11_findFar 108 rfl) ?_
      refine x_goto (tgt := 127) (by decide) (dk zX11_findFar 109 rfl) ?_
      exact x_sub [0, 1, 2, 3, 4, 5] rfl hv9
    · have hc7f := hb6.2 c7
      refine x_iload 6 rfl (dk zX11_findFar 101 rfl) ?_
      refine x_goto (tgt := 199) (by decide) (dk zX11_findFar 102 rfl) ?_
      refine y_iast (j := x5.toNatClampNeg) k146 l146 b6 rfl (dk zX11_findFar 107 rfl) ?_
      obtain ⟨v10, ev10⟩ : ∃ y : Int32, y = x5 + 1 := ⟨_, rfl⟩
      have hv10 := hc7f v10 ev10
      refine x_iinc (v := v10) (l' := [(0, .ref 123), (1, .int x1), (2, .int x2), (3, .int x3), (4, .int x4), (5, .int v10), (6, .int v5)]) 5 rfl (by rw [ev10]; rfl) [1, 2, 3, 4, 5, 0, 6] rfl (by decide) (dk zX11_findFar 108 rfl) ?_
      refine x_goto (tgt := 127) (by decide) (dk zX11_findFar 109 rfl) ?_
      exact x_sub [0, 1, 2, 3, 4, 5] rfl hv10
set_option maxRecDepth 20000 in
set_option maxHeartbeats 2000000 in
theorem gX11_farOf_0 {E : EV} {Q : Po} {μ : Mem} {x1 : Int32} {x2 : Int32} (h : Sp E MX11_readsLand [.ref 123] μ (fun v m1 => ∃ r2 : Int32, v = some (.int r2) ∧ Sp E MX11_findFar [.ref 123, .int ((-1)), .int ((-1)), .int ((-1))] m1 (fun v m3 => v = none ∧ vp_in ((8 * x1) + x2) 64 ∧ (∀ v5 : Int32, v5 = m3.1 146 (((8 * x1) + x2).toNatClampNeg) → ((1000 ≤ v5 → Q (some (.int ((-1)))) m3) ∧ (¬ 1000 ≤ v5 → Q (some (.int v5)) m3)))))) : Ex E MX11_farOf Q 0 [(0, .ref 123), (1, .int x1), (2, .int x2)] [] μ := by
  refine x_aload_n 0 rfl rfl (dk zX11_farOf 0 rfl) ?_
  refine x_callV (as := []) (o := 123) (ci := 11) (st := []) rfl okRX11_157 npX11_readsLand ⟨Nat.le_of_ble_eq_true rfl, Nat.le_of_ble_eq_true rfl⟩ k123 (by decide) rfl (Nat.le_of_ble_eq_true rfl) (dk zX11_farOf 1 rfl) ?_
  refine h.mono ?_
  rintro _ m1 ⟨r2, rfl, hm1⟩
  show Ex E MX11_farOf Q 4 [(0, .ref 123), (1, .int x1), (2, .int x2)] [.int r2] m1
  refine x_popi (dk zX11_farOf 2 rfl) ?_
  refine x_aload_n 0 rfl rfl (dk zX11_farOf 3 rfl) ?_
  refine x_iconst (v := -1) (by decide) (dk zX11_farOf 4 rfl) ?_
  refine x_iconst (v := -1) (by decide) (dk zX11_farOf 5 rfl) ?_
  refine x_iconst (v := -1) (by decide) (dk zX11_farOf 6 rfl) ?_
  refine x_callV (as := [.int ((-1)), .int ((-1)), .int ((-1))]) (o := 123) (ci := 11) (st := []) rfl okRX11_336 npX11_findFar ⟨Nat.le_of_ble_eq_true rfl, Nat.le_of_ble_eq_true rfl⟩ k123 (by decide) rfl (Nat.le_of_ble_eq_true rfl) (dk zX11_farOf 7 rfl) ?_
  refine hm1.mono ?_
  rintro _ m3 ⟨rfl, hm3⟩
  show Ex E MX11_farOf Q 12 [(0, .ref 123), (1, .int x1), (2, .int x2)] [] m3
  refine x_aload_n 0 rfl rfl (dk zX11_farOf 8 rfl) ?_
  refine gf11_33 (r := 146) rfl k123 r123_33 (dk zX11_farOf 9 rfl) ?_
  refine x_bipush (v := 8) (by decide) (dk zX11_farOf 10 rfl) ?_
  refine x_iload_n 1 rfl rfl (dk zX11_farOf 11 rfl) ?_
  refine x_imul (dk zX11_farOf 12 rfl) ?_
  refine x_iload_n 2 rfl rfl (dk zX11_farOf 13 rfl) ?_
  refine x_iadd (dk zX11_farOf 14 rfl) ?_
  have b4 := hm3.1
  have hb4 := hm3.2
  refine y_iald (j := ((8 * x1) + x2).toNatClampNeg) k146 l146 b4 rfl (dk zX11_farOf 15 rfl) ?_
  refine x_topi (fun v5 ev5 => ?_)
  have hv5 := hb4 v5 ev5
  refine x_istore_n (k := 3) (l' := [(0, .ref 123), (1, .int x1), (2, .int x2), (3, .int v5)]) [1, 2, 3, 0] rfl rfl (by decide) (dk zX11_farOf 16 rfl) ?_
  refine x_iload_n 3 rfl rfl (dk zX11_farOf 17 rfl) ?_
  refine x_sipush (v := 1000) (by decide) (dk zX11_farOf 18 rfl) ?_
  refine x_icmp_ge (tgt := 35) (by decide) (dk zX11_farOf 19 rfl) (fun c6 => ?_) (fun c6 => ?_)
  · have hc6t := hv5.1 c6
    refine x_iconst (v := -1) (by decide) (dk zX11_farOf 22 rfl) ?_
    exact x_iret (ty := .int) rfl rfl (dk zX11_farOf 23 rfl) hc6t
  · have hc6f := hv5.2 c6
    refine x_iload_n 3 rfl rfl (dk zX11_farOf 20 rfl) ?_
    refine x_goto (tgt := 36) (by decide) (dk zX11_farOf 21 rfl) ?_
    exact x_iret (ty := .int) rfl rfl (dk zX11_farOf 23 rfl) hc6f
set_option maxRecDepth 20000 in
set_option maxHeartbeats 2000000 in
theorem gX11_far_0 {E : EV} {Q : Po} {μ : Mem} {x1 : Int32} {x2 : Int32} (h : Sp E MX11_isTown [.int x1] μ (fun v m1 => ∃ r2 : Int32, v = some (.int r2) ∧ ((r2 = 0 → Q (some (.int ((-2)))) m1) ∧ (¬ r2 = 0 → Sp E MX11_isTown [.int x2] m1 (fun v m4 => ∃ r5 : Int32, v = some (.int r5) ∧ ((r5 = 0 → Q (some (.int ((-2)))) m4) ∧ (¬ r5 = 0 → Sp E MX11_farOf [.ref 123, .int x1, .int x2] m4 (fun v m7 => ∃ r8 : Int32, v = some (.int r8) ∧ Q (some (.int r8)) m7)))))))) : Ex E MX11_far Q 0 [(0, .ref 123), (1, .int x1), (2, .int x2)] [] μ := by
  refine x_iload_n 1 rfl rfl (dk zX11_far 0 rfl) ?_
  refine x_callS (as := [.int x1]) (st := []) rfl okRX11_148 npX11_isTown ⟨Nat.le_of_ble_eq_true rfl, Nat.le_of_ble_eq_true rfl⟩ (Nat.le_of_ble_eq_true rfl) (dk zX11_far 1 rfl) ?_
  refine h.mono ?_
  rintro _ m1 ⟨r2, rfl, hm1⟩
  show Ex E MX11_far Q 4 [(0, .ref 123), (1, .int x1), (2, .int x2)] [.int r2] m1
  refine x_if_eq (tgt := 23) (by decide) (dk zX11_far 2 rfl) (fun c3 => ?_) (fun c3 => ?_)
  · have hc3t := hm1.1 c3
    refine x_bipush (v := -2) (by decide) (dk zX11_far 11 rfl) ?_
    exact x_iret (ty := .int) rfl rfl (dk zX11_far 12 rfl) hc3t
  · have hc3f := hm1.2 c3
    refine x_iload_n 2 rfl rfl (dk zX11_far 3 rfl) ?_
    refine x_callS (as := [.int x2]) (st := []) rfl okRX11_148 npX11_isTown ⟨Nat.le_of_ble_eq_true rfl, Nat.le_of_ble_eq_true rfl⟩ (Nat.le_of_ble_eq_true rfl) (dk zX11_far 4 rfl) ?_
    refine hc3f.mono ?_
    rintro _ m4 ⟨r5, rfl, hm4⟩
    show Ex E MX11_far Q 11 [(0, .ref 123), (1, .int x1), (2, .int x2)] [.int r5] m4
    refine x_if_eq (tgt := 23) (by decide) (dk zX11_far 5 rfl) (fun c6 => ?_) (fun c6 => ?_)
    · have hc6t := hm4.1 c6
      refine x_bipush (v := -2) (by decide) (dk zX11_far 11 rfl) ?_
      exact x_iret (ty := .int) rfl rfl (dk zX11_far 12 rfl) hc6t
    · have hc6f := hm4.2 c6
      refine x_aload_n 0 rfl rfl (dk zX11_far 6 rfl) ?_
      refine x_iload_n 1 rfl rfl (dk zX11_far 7 rfl) ?_
      refine x_iload_n 2 rfl rfl (dk zX11_far 8 rfl) ?_
      refine x_callV (as := [.int x1, .int x2]) (o := 123) (ci := 11) (st := []) rfl okRX11_340 npX11_farOf ⟨Nat.le_of_ble_eq_true rfl, Nat.le_of_ble_eq_true rfl⟩ k123 (by decide) rfl (Nat.le_of_ble_eq_true rfl) (dk zX11_far 9 rfl) ?_
      refine hc6f.mono ?_
      rintro _ m7 ⟨r8, rfl, hm7⟩
      show Ex E MX11_far Q 20 [(0, .ref 123), (1, .int x1), (2, .int x2)] [.int r8] m7
      refine x_goto (tgt := 25) (by decide) (dk zX11_far 10 rfl) ?_
      exact x_iret (ty := .int) rfl rfl (dk zX11_far 12 rfl) hm7
set_option maxRecDepth 20000 in
set_option maxHeartbeats 2000000 in
theorem gX11_changed_0 {E : EV} {Q : Po} {μ : Mem} {x1 : Int32} {x2 : Int32} {x3 : Int32} {x4 : Int32} (h : Sp E MX11_findFar [.ref 123, .int ((-1)), .int ((-1)), .int ((-1))] μ (fun v m1 => v = none ∧ Ex E MX11_changed Q 10 [(0, .ref 123), (1, .int x1), (2, .int x2), (3, .int x3), (4, .int x4), (5, .int 0)] [] m1)) : Ex E MX11_changed Q 0 [(0, .ref 123), (1, .int x1), (2, .int x2), (3, .int x3), (4, .int x4)] [] μ := by
  refine x_aload_n 0 rfl rfl (dk zX11_changed 0 rfl) ?_
  refine x_iconst (v := -1) (by decide) (dk zX11_changed 1 rfl) ?_
  refine x_iconst (v := -1) (by decide) (dk zX11_changed 2 rfl) ?_
  refine x_iconst (v := -1) (by decide) (dk zX11_changed 3 rfl) ?_
  refine x_callV (as := [.int ((-1)), .int ((-1)), .int ((-1))]) (o := 123) (ci := 11) (st := []) rfl okRX11_336 npX11_findFar ⟨Nat.le_of_ble_eq_true rfl, Nat.le_of_ble_eq_true rfl⟩ k123 (by decide) rfl (Nat.le_of_ble_eq_true rfl) (dk zX11_changed 4 rfl) ?_
  refine h.mono ?_
  rintro _ m1 ⟨rfl, hm1⟩
  show Ex E MX11_changed Q 7 [(0, .ref 123), (1, .int x1), (2, .int x2), (3, .int x3), (4, .int x4)] [] m1
  refine x_iconst (v := 0) (by decide) (dk zX11_changed 5 rfl) ?_
  refine x_istoreG (l' := [(0, .ref 123), (1, .int x1), (2, .int x2), (3, .int x3), (4, .int x4), (5, .int 0)]) [1, 2, 3, 4, 5, 0] rfl (by decide) (dk zX11_changed 6 rfl) ?_
  exact hm1
set_option maxRecDepth 20000 in
set_option maxHeartbeats 2000000 in
theorem gX11_changed_10 {E : EV} {Q : Po} {μ : Mem} {x1 : Int32} {x2 : Int32} {x3 : Int32} {x4 : Int32} {x5 : Int32} (h : ((64 ≤ x5 → Sp E MX11_findFar [.ref 123, .int x1, .int x2, .int x3] μ (fun v m2 => v = none ∧ Ex E MX11_changed Q 53 [(0, .ref 123), (1, .int x1), (2, .int x2), (3, .int x3), (4, .int x4), (5, .int 0), (6, .int 0), (7, .int 0)] [] m2)) ∧ (¬ 64 ≤ x5 → vp_in x5 64 ∧ (∀ v4 : Int32, v4 = μ.1 146 x5.toNatClampNeg → ∀ v5 : Int32, v5 = x5 + 1 → Ex E MX11_changed Q 10 [(0, .ref 123), (1, .int x1), (2, .int x2), (3, .int x3), (4, .int x4), (5, .int v5)] [] (mI μ 147 x5.toNatClampNeg v4))))) : Ex E MX11_changed Q 10 [(0, .ref 123), (1, .int x1), (2, .int x2), (3, .int x3), (4, .int x4), (5, .int x5)] [] μ := by
  refine x_iload 5 rfl (dk zX11_changed 7 rfl) ?_
  refine x_bipush (v := 64) (by decide) (dk zX11_changed 8 rfl) ?_
  refine x_icmp_ge (tgt := 37) (by decide) (dk zX11_changed 9 rfl) (fun c1 => ?_) (fun c1 => ?_)
  · have hc1t := h.1 c1
    refine x_aload_n 0 rfl rfl (dk zX11_changed 20 rfl) ?_
    refine x_iload_n 1 rfl rfl (dk zX11_changed 21 rfl) ?_
    refine x_iload_n 2 rfl rfl (dk zX11_changed 22 rfl) ?_
    refine x_iload_n 3 rfl rfl (dk zX11_changed 23 rfl) ?_
    refine x_callV (as := [.int x1, .int x2, .int x3]) (o := 123) (ci := 11) (st := []) rfl okRX11_336 npX11_findFar ⟨Nat.le_of_ble_eq_true rfl, Nat.le_of_ble_eq_true rfl⟩ k123 (by decide) rfl (Nat.le_of_ble_eq_true rfl) (dk zX11_changed 24 rfl) ?_
    refine hc1t.mono ?_
    rintro _ m2 ⟨rfl, hm2⟩
    show Ex E MX11_changed Q 44 [(0, .ref 123), (1, .int x1), (2, .int x2), (3, .int x3), (4, .int x4), (5, .int x5)] [] m2
    refine x_iconst (v := 0) (by decide) (dk zX11_changed 25 rfl) ?_
    refine x_istoreG (l' := [(0, .ref 123), (1, .int x1), (2, .int x2), (3, .int x3), (4, .int x4), (5, .int 0)]) [1, 2, 3, 4, 5, 0] rfl (by decide) (dk zX11_changed 26 rfl) ?_
    refine x_iconst (v := 0) (by decide) (dk zX11_changed 27 rfl) ?_
    refine x_istoreG (l' := [(0, .ref 123), (1, .int x1), (2, .int x2), (3, .int x3), (4, .int x4), (5, .int 0), (6, .int 0)]) [1, 2, 3, 4, 5, 6, 0] rfl (by decide) (dk zX11_changed 28 rfl) ?_
    refine x_iconst (v := 0) (by decide) (dk zX11_changed 29 rfl) ?_
    refine x_istoreG (l' := [(0, .ref 123), (1, .int x1), (2, .int x2), (3, .int x3), (4, .int x4), (5, .int 0), (6, .int 0), (7, .int 0)]) [1, 2, 3, 4, 5, 6, 7, 0] rfl (by decide) (dk zX11_changed 30 rfl) ?_
    exact hm2
  · have hc1f := h.2 c1
    refine x_aload_n 0 rfl rfl (dk zX11_changed 10 rfl) ?_
    refine gf11_34 (r := 147) rfl k123 r123_34 (dk zX11_changed 11 rfl) ?_
    refine x_iload 5 rfl (dk zX11_changed 12 rfl) ?_
    refine x_aload_n 0 rfl rfl (dk zX11_changed 13 rfl) ?_
    refine gf11_33 (r := 146) rfl k123 r123_33 (dk zX11_changed 14 rfl) ?_
    refine x_iload 5 rfl (dk zX11_changed 15 rfl) ?_
    have b3 := hc1f.1
    have hb3 := hc1f.2
    refine y_iald (j := x5.toNatClampNeg) k146 l146 b3 rfl (dk zX11_changed 16 rfl) ?_
    refine x_topi (fun v4 ev4 => ?_)
    have hv4 := hb3 v4 ev4
    refine y_iast (j := x5.toNatClampNeg) k147 l147 b3 rfl (dk zX11_changed 17 rfl) ?_
    obtain ⟨v5, ev5⟩ : ∃ y : Int32, y = x5 + 1 := ⟨_, rfl⟩
    have hv5 := hv4 v5 ev5
    refine x_iinc (v := v5) (l' := [(0, .ref 123), (1, .int x1), (2, .int x2), (3, .int x3), (4, .int x4), (5, .int v5)]) 5 rfl (by rw [ev5]; rfl) [1, 2, 3, 4, 5, 0] rfl (by decide) (dk zX11_changed 18 rfl) ?_
    refine x_goto (tgt := 10) (by decide) (dk zX11_changed 19 rfl) ?_
    exact hv5
set_option maxRecDepth 20000 in
set_option maxHeartbeats 2000000 in
theorem gX11_changed_53 {E : EV} {Q : Po} {μ : Mem} {x1 : Int32} {x2 : Int32} {x3 : Int32} {x4 : Int32} {x5 : Int32} {x6 : Int32} {x7 : Int32} (h : ((64 ≤ x7 → ((¬ x4 = 0 → Q (some (.int x6)) μ) ∧ (x4 = 0 → Q (some (.int x5)) μ))) ∧ (¬ 64 ≤ x7 → (((x7 - x7 / 8 * 8) ≤ (x7 / 8) → Ex E MX11_changed Q 95 [(0, .ref 123), (1, .int x1), (2, .int x2), (3, .int x3), (4, .int x4), (5, .int x5), (6, .int x6), (7, .int x7)] [.int 0] μ) ∧ (¬ (x7 - x7 / 8 * 8) ≤ (x7 / 8) → vp_in x7 64 ∧ ((((μ.1 146 x7.toNatClampNeg) = (μ.1 147 x7.toNatClampNeg) → Ex E MX11_changed Q 95 [(0, .ref 123), (1, .int x1), (2, .int x2), (3, .int x3), (4, .int x4), (5, .int x5), (6, .int x6), (7, .int x7)] [.int 0] μ) ∧ (¬ (μ.1 146 x7.toNatClampNeg) = (μ.1 147 x7.toNatClampNeg) → Ex E MX11_changed Q 95 [(0, .ref 123), (1, .int x1), (2, .int x2), (3, .int x3), (4, .int x4), (5, .int x5), (6, .int x6), (7, .int x7)] [.int 1] μ)))))))) : Ex E MX11_changed Q 53 [(0, .ref 123), (1, .int x1), (2, .int x2), (3, .int x3), (4, .int x4), (5, .int x5), (6, .int x6), (7, .int x7)] [] μ := by
  refine x_iload 7 rfl (dk zX11_changed 31 rfl) ?_
  refine x_bipush (v := 64) (by decide) (dk zX11_changed 32 rfl) ?_
  refine x_icmp_ge (tgt := 217) (by decide) (dk zX11_changed 33 rfl) (fun c1 => ?_) (fun c1 => ?_)
  · have hc1t := h.1 c1
    refine x_iload 4 rfl (dk zX11_changed 114 rfl) ?_
    refine x_if_ne (tgt := 227) (by decide) (dk zX11_changed 115 rfl) (fun c2 => ?_) (fun c2 => ?_)
    · have hc2t := hc1t.1 c2
      refine x_iload 6 rfl (dk zX11_changed 118 rfl) ?_
      exact x_iret (ty := .int) rfl rfl (dk zX11_changed 119 rfl) hc2t
    · have hc2f := hc1t.2 c2
      refine x_iload 5 rfl (dk zX11_changed 116 rfl) ?_
      refine x_goto (tgt := 229) (by decide) (dk zX11_changed 117 rfl) ?_
      exact x_iret (ty := .int) rfl rfl (dk zX11_changed 119 rfl) hc2f
  · have hc1f := h.2 c1
    refine x_iload 7 rfl (dk zX11_changed 34 rfl) ?_
    refine x_bipush (v := 8) (by decide) (dk zX11_changed 35 rfl) ?_
    refine x_idiv (by decide) (dk zX11_changed 36 rfl) ?_
    refine x_iload 7 rfl (dk zX11_changed 37 rfl) ?_
    refine x_bipush (v := 8) (by decide) (dk zX11_changed 38 rfl) ?_
    refine x_irem (by decide) (dk zX11_changed 39 rfl) ?_
    refine x_icmp_ge (tgt := 94) (by decide) (dk zX11_changed 40 rfl) (fun c3 => ?_) (fun c3 => ?_)
    · have hc3t := hc1f.1 c3
      refine x_iconst (v := 0) (by decide) (dk zX11_changed 52 rfl) ?_
      exact hc3t
    · have hc3f := hc1f.2 c3
      refine x_aload_n 0 rfl rfl (dk zX11_changed 41 rfl) ?_
      refine gf11_33 (r := 146) rfl k123 r123_33 (dk zX11_changed 42 rfl) ?_
      refine x_iload 7 rfl (dk zX11_changed 43 rfl) ?_
      have b4 := hc3f.1
      have hb4 := hc3f.2
      refine y_iald (j := x7.toNatClampNeg) k146 l146 b4 rfl (dk zX11_changed 44 rfl) ?_
      refine x_aload_n 0 rfl rfl (dk zX11_changed 45 rfl) ?_
      refine gf11_34 (r := 147) rfl k123 r123_34 (dk zX11_changed 46 rfl) ?_
      refine x_iload 7 rfl (dk zX11_changed 47 rfl) ?_
      refine y_iald (j := x7.toNatClampNeg) k147 l147 b4 rfl (dk zX11_changed 48 rfl) ?_
      refine x_icmp_eq (tgt := 94) (by decide) (dk zX11_changed 49 rfl) (fun c5 => ?_) (fun c5 => ?_)
      · have hc5t := hb4.1 c5
        refine x_iconst (v := 0) (by decide) (dk zX11_changed 52 rfl) ?_
        exact hc5t
      · have hc5f := hb4.2 c5
        refine x_iconst (v := 1) (by decide) (dk zX11_changed 50 rfl) ?_
        refine x_goto (tgt := 95) (by decide) (dk zX11_changed 51 rfl) ?_
        exact hc5f
set_option maxRecDepth 20000 in
set_option maxHeartbeats 2000000 in
theorem gX11_changed_95 {E : EV} {Q : Po} {μ : Mem} {x1 : Int32} {x2 : Int32} {x3 : Int32} {x4 : Int32} {x5 : Int32} {x6 : Int32} {x7 : Int32} {s0 : Int32} (h : vp_in x7 64 ∧ ((((μ.1 146 x7.toNatClampNeg) ≤ (μ.1 147 x7.toNatClampNeg) → Ex E MX11_changed Q 147 [(0, .ref 123), (1, .int x1), (2, .int x2), (3, .int x3), (4, .int x4), (5, .int x5), (6, .int x6), (7, .int x7), (8, .int s0)] [.int ((μ.1 147 x7.toNatClampNeg) - (μ.1 146 x7.toNatClampNeg))] μ) ∧ (¬ (μ.1 146 x7.toNatClampNeg) ≤ (μ.1 147 x7.toNatClampNeg) → Ex E MX11_changed Q 147 [(0, .ref 123), (1, .int x1), (2, .int x2), (3, .int x3), (4, .int x4), (5, .int x5), (6, .int x6), (7, .int x7), (8, .int s0)] [.int ((μ.1 146 x7.toNatClampNeg) - (μ.1 147 x7.toNatClampNeg))] μ)))) : Ex E MX11_changed Q 95 [(0, .ref 123), (1, .int x1), (2, .int x2), (3, .int x3), (4, .int x4), (5, .int x5), (6, .int x6), (7, .int x7)] [.int s0] μ := by
  refine x_istoreG (l' := [(0, .ref 123), (1, .int x1), (2, .int x2), (3, .int x3), (4, .int x4), (5, .int x5), (6, .int x6), (7, .int x7), (8, .int s0)]) [1, 2, 3, 4, 5, 6, 7, 8, 0] rfl (by decide) (dk zX11_changed 53 rfl) ?_
  refine x_aload_n 0 rfl rfl (dk zX11_changed 54 rfl) ?_
  refine gf11_33 (r := 146) rfl k123 r123_33 (dk zX11_changed 55 rfl) ?_
  refine x_iload 7 rfl (dk zX11_changed 56 rfl) ?_
  have b1 := h.1
  have hb1 := h.2
  refine y_iald (j := x7.toNatClampNeg) k146 l146 b1 rfl (dk zX11_changed 57 rfl) ?_
  refine x_aload_n 0 rfl rfl (dk zX11_changed 58 rfl) ?_
  refine gf11_34 (r := 147) rfl k123 r123_34 (dk zX11_changed 59 rfl) ?_
  refine x_iload 7 rfl (dk zX11_changed 60 rfl) ?_
  refine y_iald (j := x7.toNatClampNeg) k147 l147 b1 rfl (dk zX11_changed 61 rfl) ?_
  refine x_icmp_le (tgt := 132) (by decide) (dk zX11_changed 62 rfl) (fun c2 => ?_) (fun c2 => ?_)
  · have hc2t := hb1.1 c2
    refine x_aload_n 0 rfl rfl (dk zX11_changed 73 rfl) ?_
    refine gf11_34 (r := 147) rfl k123 r123_34 (dk zX11_changed 74 rfl) ?_
    refine x_iload 7 rfl (dk zX11_changed 75 rfl) ?_
    refine y_iald (j := x7.toNatClampNeg) k147 l147 b1 rfl (dk zX11_changed 76 rfl) ?_
    refine x_aload_n 0 rfl rfl (dk zX11_changed 77 rfl) ?_
    refine gf11_33 (r := 146) rfl k123 r123_33 (dk zX11_changed 78 rfl) ?_
    refine x_iload 7 rfl (dk zX11_changed 79 rfl) ?_
    refine y_iald (j := x7.toNatClampNeg) k146 l146 b1 rfl (dk zX11_changed 80 rfl) ?_
    refine x_isub (dk zX11_changed 81 rfl) ?_
    exact hc2t
  · have hc2f := hb1.2 c2
    refine x_aload_n 0 rfl rfl (dk zX11_changed 63 rfl) ?_
    refine gf11_33 (r := 146) rfl k123 r123_33 (dk zX11_changed 64 rfl) ?_
    refine x_iload 7 rfl (dk zX11_changed 65 rfl) ?_
    refine y_iald (j := x7.toNatClampNeg) k146 l146 b1 rfl (dk zX11_changed 66 rfl) ?_
    refine x_aload_n 0 rfl rfl (dk zX11_changed 67 rfl) ?_
    refine gf11_34 (r := 147) rfl k123 r123_34 (dk zX11_changed 68 rfl) ?_
    refine x_iload 7 rfl (dk zX11_changed 69 rfl) ?_
    refine y_iald (j := x7.toNatClampNeg) k147 l147 b1 rfl (dk zX11_changed 70 rfl) ?_
    refine x_isub (dk zX11_changed 71 rfl) ?_
    refine x_goto (tgt := 147) (by decide) (dk zX11_changed 72 rfl) ?_
    exact hc2f
set_option maxRecDepth 20000 in
set_option maxHeartbeats 2000000 in
theorem gX11_changed_147 {E : EV} {Q : Po} {μ : Mem} {x1 : Int32} {x2 : Int32} {x3 : Int32} {x4 : Int32} {x5 : Int32} {x6 : Int32} {x7 : Int32} {x8 : Int32} {s0 : Int32} (h : ((x8 = 0 → Ex E MX11_changed Q 161 [(0, .ref 123), (1, .int x1), (2, .int x2), (3, .int x3), (4, .int x4), (5, .int x5), (6, .int x6), (7, .int x7), (8, .int x8), (9, .int s0)] [.int 0, .int x5] μ) ∧ (¬ x8 = 0 → Ex E MX11_changed Q 161 [(0, .ref 123), (1, .int x1), (2, .int x2), (3, .int x3), (4, .int x4), (5, .int x5), (6, .int x6), (7, .int x7), (8, .int x8), (9, .int s0)] [.int 1, .int x5] μ))) : Ex E MX11_changed Q 147 [(0, .ref 123), (1, .int x1), (2, .int x2), (3, .int x3), (4, .int x4), (5, .int x5), (6, .int x6), (7, .int x7), (8, .int x8)] [.int s0] μ := by
  refine x_istoreG (l' := [(0, .ref 123), (1, .int x1), (2, .int x2), (3, .int x3), (4, .int x4), (5, .int x5), (6, .int x6), (7, .int x7), (8, .int x8), (9, .int s0)]) [1, 2, 3, 4, 5, 6, 7, 8, 9, 0] rfl (by decide) (dk zX11_changed 82 rfl) ?_
  refine x_iload 5 rfl (dk zX11_changed 83 rfl) ?_
  refine x_iload 8 rfl (dk zX11_changed 84 rfl) ?_
  refine x_if_eq (tgt := 160) (by decide) (dk zX11_changed 85 rfl) (fun c1 => ?_) (fun c1 => ?_)
  · have hc1t := h.1 c1
    refine x_iconst (v := 0) (by decide) (dk zX11_changed 88 rfl) ?_
    exact hc1t
  · have hc1f := h.2 c1
    refine x_iconst (v := 1) (by decide) (dk zX11_changed 86 rfl) ?_
    refine x_goto (tgt := 161) (by decide) (dk zX11_changed 87 rfl) ?_
    exact hc1f
set_option maxRecDepth 20000 in
set_option maxHeartbeats 2000000 in
theorem gX11_changed_161 {E : EV} {Q : Po} {μ : Mem} {x1 : Int32} {x2 : Int32} {x3 : Int32} {x4 : Int32} {x5 : Int32} {x6 : Int32} {x7 : Int32} {x8 : Int32} {x9 : Int32} {s0 : Int32} {s1 : Int32} (h : ∀ v1 : Int32, v1 = s0 + s1 → ((x8 = 0 → ∀ v3 : Int32, v3 = x7 + 1 → Ex E MX11_changed Q 53 [(0, .ref 123), (1, .int x1), (2, .int x2), (3, .int x3), (4, .int x4), (5, .int v1), (6, .int x6), (7, .int v3)] [] μ) ∧ (¬ x8 = 0 → vp_in x7 64 ∧ (((1000 ≤ (μ.1 146 x7.toNatClampNeg) → ∀ v6 : Int32, v6 = x7 + 1 → Ex E MX11_changed Q 53 [(0, .ref 123), (1, .int x1), (2, .int x2), (3, .int x3), (4, .int x4), (5, .int v1), (6, .int x6), (7, .int v6)] [] μ) ∧ (¬ 1000 ≤ (μ.1 146 x7.toNatClampNeg) → ((1000 ≤ (μ.1 147 x7.toNatClampNeg) → ∀ v8 : Int32, v8 = x7 + 1 → Ex E MX11_changed Q 53 [(0, .ref 123), (1, .int x1), (2, .int x2), (3, .int x3), (4, .int x4), (5, .int v1), (6, .int x6), (7, .int v8)] [] μ) ∧ (¬ 1000 ≤ (μ.1 147 x7.toNatClampNeg) → ((x9 ≤ x6 → ∀ v10 : Int32, v10 = x7 + 1 → Ex E MX11_changed Q 53 [(0, .ref 123), (1, .int x1), (2, .int x2), (3, .int x3), (4, .int x4), (5, .int v1), (6, .int x6), (7, .int v10)] [] μ) ∧ (¬ x9 ≤ x6 → ∀ v11 : Int32, v11 = x7 + 1 → Ex E MX11_changed Q 53 [(0, .ref 123), (1, .int x1), (2, .int x2), (3, .int x3), (4, .int x4), (5, .int v1), (6, .int x9), (7, .int v11)] [] μ)))))))))) : Ex E MX11_changed Q 161 [(0, .ref 123), (1, .int x1), (2, .int x2), (3, .int x3), (4, .int x4), (5, .int x5), (6, .int x6), (7, .int x7), (8, .int x8), (9, .int x9)] [.int s1, .int s0] μ := by
  refine x_iadd (dk zX11_changed 89 rfl) ?_
  refine x_topi (fun v1 ev1 => ?_)
  have hv1 := h v1 ev1
  refine x_istoreG (l' := [(0, .ref 123), (1, .int x1), (2, .int x2), (3, .int x3), (4, .int x4), (5, .int v1), (6, .int x6), (7, .int x7), (8, .int x8), (9, .int x9)]) [1, 2, 3, 4, 5, 0, 6, 7, 8, 9] rfl (by decide) (dk zX11_changed 90 rfl) ?_
  refine x_iload 8 rfl (dk zX11_changed 91 rfl) ?_
  refine x_if_eq (tgt := 207) (by decide) (dk zX11_changed 92 rfl) (fun c2 => ?_) (fun c2 => ?_)
  · have hc2t := hv1.1 c2
    refine x_iload 6 rfl (dk zX11_changed 110 rfl) ?_
    refine x_istoreG (l' := [(0, .ref 123), (1, .int x1), (2, .int x2), (3, .int x3), (4, .int x4), (5, .int v1), (6, .int x6), (7, .int x7), (8, .int x8), (9, .int x9)]) [1, 2, 3, 4, 5, 6, 0, 7, 8, 9] rfl (by decide) (dk zX11_changed 111 rfl) ?_
    obtain ⟨v3, ev3⟩ : ∃ y : Int32, y = x7 + 1 := ⟨_, rfl⟩
    have hv3 := hc2t v3 ev3
    refine x_iinc (v := v3) (l' := [(0, .ref 123), (1, .int x1), (2, .int x2), (3, .int x3), (4, .int x4), (5, .int v1), (6, .int x6), (7, .int v3), (8, .int x8), (9, .int x9)]) 7 rfl (by rw [ev3]; rfl) [1, 2, 3, 4, 5, 6, 7, 0, 8, 9] rfl (by decide) (dk zX11_changed 112 rfl) ?_
    refine x_goto (tgt := 53) (by decide) (dk zX11_changed 113 rfl) ?_
    exact x_sub [0, 1, 2, 3, 4, 5, 6, 7] rfl hv3
  · have hc2f := hv1.2 c2
    refine x_aload_n 0 rfl rfl (dk zX11_changed 93 rfl) ?_
    refine gf11_33 (r := 146) rfl k123 r123_33 (dk zX11_changed 94 rfl) ?_
    refine x_iload 7 rfl (dk zX11_changed 95 rfl) ?_
    have b4 := hc2f.1
    have hb4 := hc2f.2
    refine y_iald (j := x7.toNatClampNeg) k146 l146 b4 rfl (dk zX11_changed 96 rfl) ?_
    refine x_sipush (v := 1000) (by decide) (dk zX11_changed 97 rfl) ?_
    refine x_icmp_ge (tgt := 207) (by decide) (dk zX11_changed 98 rfl) (fun c5 => ?_) (fun c5 => ?_)
    · have hc5t := hb4.1 c5
      refine x_iload 6 rfl (dk zX11_changed 110 rfl) ?_
      refine x_istoreG (l' := [(0, .ref 123), (1, .int x1), (2, .int x2), (3, .int x3), (4, .int x4), (5, .int v1), (6, .int x6), (7, .int x7), (8, .int x8), (9, .int x9)]) [1, 2, 3, 4, 5, 6, 0, 7, 8, 9] rfl (by decide) (dk zX11_changed 111 rfl) ?_
      obtain ⟨v6, ev6⟩ : ∃ y : Int32, y = x7 + 1 := ⟨_, rfl⟩
      have hv6 := hc5t v6 ev6
      refine x_iinc (v := v6) (l' := [(0, .ref 123), (1, .int x1), (2, .int x2), (3, .int x3), (4, .int x4), (5, .int v1), (6, .int x6), (7, .int v6), (8, .int x8), (9, .int x9)]) 7 rfl (by rw [ev6]; rfl) [1, 2, 3, 4, 5, 6, 7, 0, 8, 9] rfl (by decide) (dk zX11_changed 112 rfl) ?_
      refine x_goto (tgt := 53) (by decide) (dk zX11_changed 113 rfl) ?_
      exact x_sub [0, 1, 2, 3, 4, 5, 6, 7] rfl hv6
    · have hc5f := hb4.2 c5
      refine x_aload_n 0 rfl rfl (dk zX11_changed 99 rfl) ?_
      refine gf11_34 (r := 147) rfl k123 r123_34 (dk zX11_changed 100 rfl) ?_
      refine x_iload 7 rfl (dk zX11_changed 101 rfl) ?_
      refine y_iald (j := x7.toNatClampNeg) k147 l147 b4 rfl (dk zX11_changed 102 rfl) ?_
      refine x_sipush (v := 1000) (by decide) (dk zX11_changed 103 rfl) ?_
      refine x_icmp_ge (tgt := 207) (by decide) (dk zX11_changed 104 rfl) (fun c7 => ?_) (fun c7 => ?_)
      · have hc7t := hc5f.1 c7
        refine x_iload 6 rfl (dk zX11_changed 110 rfl) ?_
        refine x_istoreG (l' := [(0, .ref 123), (1, .int x1), (2, .int x2), (3, .int x3), (4, .int x4), (5, .int v1), (6, .int x6), (7, .int x7), (8, .int x8), (9, .int x9)]) [1, 2, 3, 4, 5, 6, 0, 7, 8, 9] rfl (by decide) (dk zX11_changed 111 rfl) ?_
        obtain ⟨v8, ev8⟩ : ∃ y : Int32, y = x7 + 1 := ⟨_, rfl⟩
        have hv8 := hc7t v8 ev8
        refine x_iinc (v := v8) (l' := [(0, .ref 123), (1, .int x1), (2, .int x2), (3, .int x3), (4, .int x4), (5, .int v1), (6, .int x6), (7, .int v8), (8, .int x8), (9, .int x9)]) 7 rfl (by rw [ev8]; rfl) [1, 2, 3, 4, 5, 6, 7, 0, 8, 9] rfl (by decide) (dk zX11_changed 112 rfl) ?_
        refine x_goto (tgt := 53) (by decide) (dk zX11_changed 113 rfl) ?_
        exact x_sub [0, 1, 2, 3, 4, 5, 6, 7] rfl hv8
      · have hc7f := hc5f.2 c7
        refine x_iload 9 rfl (dk zX11_changed 105 rfl) ?_
        refine x_iload 6 rfl (dk zX11_changed 106 rfl) ?_
        refine x_icmp_le (tgt := 207) (by decide) (dk zX11_changed 107 rfl) (fun c9 => ?_) (fun c9 => ?_)
        · have hc9t := hc7f.1 c9
          refine x_iload 6 rfl (dk zX11_changed 110 rfl) ?_
          refine x_istoreG (l' := [(0, .ref 123), (1, .int x1), (2, .int x2), (3, .int x3), (4, .int x4), (5, .int v1), (6, .int x6), (7, .int x7), (8, .int x8), (9, .int x9)]) [1, 2, 3, 4, 5, 6, 0, 7, 8, 9] rfl (by decide) (dk zX11_changed 111 rfl) ?_
          obtain ⟨v10, ev10⟩ : ∃ y : Int32, y = x7 + 1 := ⟨_, rfl⟩
          have hv10 := hc9t v10 ev10
          refine x_iinc (v := v10) (l' := [(0, .ref 123), (1, .int x1), (2, .int x2), (3, .int x3), (4, .int x4), (5, .int v1), (6, .int x6), (7, .int v10), (8, .int x8), (9, .int x9)]) 7 rfl (by rw [ev10]; rfl) [1, 2, 3, 4, 5, 6, 7, 0, 8, 9] rfl (by decide) (dk zX11_changed 112 rfl) ?_
          refine x_goto (tgt := 53) (by decide) (dk zX11_changed 113 rfl) ?_
          exact x_sub [0, 1, 2, 3, 4, 5, 6, 7] rfl hv10
        · have hc9f := hc7f.2 c9
          refine x_iload 9 rfl (dk zX11_changed 108 rfl) ?_
          refine x_goto (tgt := 209) (by decide) (dk zX11_changed 109 rfl) ?_
          refine x_istoreG (l' := [(0, .ref 123), (1, .int x1), (2, .int x2), (3, .int x3), (4, .int x4), (5, .int v1), (6, .int x9), (7, .int x7), (8, .int x8), (9, .int x9)]) [1, 2, 3, 4, 5, 6, 0, 7, 8, 9] rfl (by decide) (dk zX11_changed 111 rfl) ?_
          obtain ⟨v11, ev11⟩ : ∃ y : Int32, y = x7 + 1 := ⟨_, rfl⟩
          have hv11 := hc9f v11 ev11
          refine x_iinc (v := v11) (l' := [(0, .ref 123), (1, .int x1), (2, .int x2), (3, .int x3), (4, .int x4), (5, .int v1), (6, .int x9), (7, .int v11), (8, .int x8), (9, .int x9)]) 7 rfl (by rw [ev11]; rfl) [1, 2, 3, 4, 5, 6, 7, 0, 8, 9] rfl (by decide) (dk zX11_changed 112 rfl) ?_
          refine x_goto (tgt := 53) (by decide) (dk zX11_changed 113 rfl) ?_
          exact x_sub [0, 1, 2, 3, 4, 5, 6, 7] rfl hv11
set_option maxRecDepth 20000 in
set_option maxHeartbeats 2000000 in
theorem gX11_without_0 {E : EV} {Q : Po} {μ : Mem} {x1 : Int32} {x2 : Int32} (h : Sp E MX11_readsLand [.ref 123] μ (fun v m1 => ∃ r2 : Int32, v = some (.int r2) ∧ Sp E MX11_in [.long (Int32.toInt64 x1), .long 0, .long (Int32.toInt64 ((m1.1 123 8) - 1))] m1 (fun v m3 => ∃ r4 : Int32, v = some (.int r4) ∧ ((r4 = 0 → Q (some (.int ((-2)))) m3) ∧ (¬ r4 = 0 → Sp E MX11_isTwo [.int x2] m3 (fun v m6 => ∃ r7 : Int32, v = some (.int r7) ∧ ((r7 = 0 → Q (some (.int ((-2)))) m6) ∧ (¬ r7 = 0 → Sp E MX11_changed [.ref 123, .int x1, .int ((-1)), .int ((-1)), .int x2] m6 (fun v m9 => ∃ r10 : Int32, v = some (.int r10) ∧ Q (some (.int r10)) m9))))))))) : Ex E MX11_without Q 0 [(0, .ref 123), (1, .int x1), (2, .int x2)] [] μ := by
  refine x_aload_n 0 rfl rfl (dk zX11_without 0 rfl) ?_
  refine x_callV (as := []) (o := 123) (ci := 11) (st := []) rfl okRX11_157 npX11_readsLand ⟨Nat.le_of_ble_eq_true rfl, Nat.le_of_ble_eq_true rfl⟩ k123 (by decide) rfl (Nat.le_of_ble_eq_true rfl) (dk zX11_without 1 rfl) ?_
  refine h.mono ?_
  rintro _ m1 ⟨r2, rfl, hm1⟩
  show Ex E MX11_without Q 4 [(0, .ref 123), (1, .int x1), (2, .int x2)] [.int r2] m1
  refine x_popi (dk zX11_without 2 rfl) ?_
  refine x_iload_n 1 rfl rfl (dk zX11_without 3 rfl) ?_
  refine x_i2l (dk zX11_without 4 rfl) ?_
  refine x_lconst (v := 0) (by decide) (dk zX11_without 5 rfl) ?_
  refine x_aload_n 0 rfl rfl (dk zX11_without 6 rfl) ?_
  refine gf11_8 rfl k123 (dk zX11_without 7 rfl) ?_
  refine x_iconst (v := 1) (by decide) (dk zX11_without 8 rfl) ?_
  refine x_isub (dk zX11_without 9 rfl) ?_
  refine x_i2l (dk zX11_without 10 rfl) ?_
  refine x_callS (as := [.long (Int32.toInt64 x1), .long 0, .long (Int32.toInt64 ((m1.1 123 8) - 1))]) (st := []) rfl okRX11_86 npX11_in ⟨Nat.le_of_ble_eq_true rfl, Nat.le_of_ble_eq_true rfl⟩ (Nat.le_of_ble_eq_true rfl) (dk zX11_without 11 rfl) ?_
  refine hm1.mono ?_
  rintro _ m3 ⟨r4, rfl, hm3⟩
  show Ex E MX11_without Q 18 [(0, .ref 123), (1, .int x1), (2, .int x2)] [.int r4] m3
  refine x_if_eq (tgt := 39) (by decide) (dk zX11_without 12 rfl) (fun c5 => ?_) (fun c5 => ?_)
  · have hc5t := hm3.1 c5
    refine x_bipush (v := -2) (by decide) (dk zX11_without 23 rfl) ?_
    exact x_iret (ty := .int) rfl rfl (dk zX11_without 24 rfl) hc5t
  · have hc5f := hm3.2 c5
    refine x_iload_n 2 rfl rfl (dk zX11_without 13 rfl) ?_
    refine x_callS (as := [.int x2]) (st := []) rfl okRX11_256 npX11_isTwo ⟨Nat.le_of_ble_eq_true rfl, Nat.le_of_ble_eq_true rfl⟩ (Nat.le_of_ble_eq_true rfl) (dk zX11_without 14 rfl) ?_
    refine hc5f.mono ?_
    rintro _ m6 ⟨r7, rfl, hm6⟩
    show Ex E MX11_without Q 25 [(0, .ref 123), (1, .int x1), (2, .int x2)] [.int r7] m6
    refine x_if_eq (tgt := 39) (by decide) (dk zX11_without 15 rfl) (fun c8 => ?_) (fun c8 => ?_)
    · have hc8t := hm6.1 c8
      refine x_bipush (v := -2) (by decide) (dk zX11_without 23 rfl) ?_
      exact x_iret (ty := .int) rfl rfl (dk zX11_without 24 rfl) hc8t
    · have hc8f := hm6.2 c8
      refine x_aload_n 0 rfl rfl (dk zX11_without 16 rfl) ?_
      refine x_iload_n 1 rfl rfl (dk zX11_without 17 rfl) ?_
      refine x_iconst (v := -1) (by decide) (dk zX11_without 18 rfl) ?_
      refine x_iconst (v := -1) (by decide) (dk zX11_without 19 rfl) ?_
      refine x_iload_n 2 rfl rfl (dk zX11_without 20 rfl) ?_
      refine x_callV (as := [.int x1, .int ((-1)), .int ((-1)), .int x2]) (o := 123) (ci := 11) (st := []) rfl okRX11_343 npX11_changed ⟨Nat.le_of_ble_eq_true rfl, Nat.le_of_ble_eq_true rfl⟩ k123 (by decide) rfl (Nat.le_of_ble_eq_true rfl) (dk zX11_without 21 rfl) ?_
      refine hc8f.mono ?_
      rintro _ m9 ⟨r10, rfl, hm9⟩
      show Ex E MX11_without Q 36 [(0, .ref 123), (1, .int x1), (2, .int x2)] [.int r10] m9
      refine x_goto (tgt := 41) (by decide) (dk zX11_without 22 rfl) ?_
      exact x_iret (ty := .int) rfl rfl (dk zX11_without 24 rfl) hm9
set_option maxRecDepth 20000 in
set_option maxHeartbeats 2000000 in
theorem gX11_with_0 {E : EV} {Q : Po} {μ : Mem} {x1 : Int32} {x2 : Int32} {x3 : Int32} (h : Sp E MX11_readsLand [.ref 123] μ (fun v m1 => ∃ r2 : Int32, v = some (.int r2) ∧ Sp E MX11_isTown [.int x1] m1 (fun v m3 => ∃ r4 : Int32, v = some (.int r4) ∧ ((r4 = 0 → Q (some (.int ((-2)))) m3) ∧ (¬ r4 = 0 → Sp E MX11_isTown [.int x2] m3 (fun v m6 => ∃ r7 : Int32, v = some (.int r7) ∧ ((r7 = 0 → Q (some (.int ((-2)))) m6) ∧ (¬ r7 = 0 → Sp E MX11_isTwo [.int x3] m6 (fun v m9 => ∃ r10 : Int32, v = some (.int r10) ∧ ((r10 = 0 → Q (some (.int ((-2)))) m9) ∧ (¬ r10 = 0 → Sp E MX11_changed [.ref 123, .int ((-1)), .int x1, .int x2, .int x3] m9 (fun v m12 => ∃ r13 : Int32, v = some (.int r13) ∧ Q (some (.int r13)) m12)))))))))))) : Ex E MX11_with Q 0 [(0, .ref 123), (1, .int x1), (2, .int x2), (3, .int x3)] [] μ := by
  refine x_aload_n 0 rfl rfl (dk zX11_with 0 rfl) ?_
  refine x_callV (as := []) (o := 123) (ci := 11) (st := []) rfl okRX11_157 npX11_readsLand ⟨Nat.le_of_ble_eq_true rfl, Nat.le_of_ble_eq_true rfl⟩ k123 (by decide) rfl (Nat.le_of_ble_eq_true rfl) (dk zX11_with 1 rfl) ?_
  refine h.mono ?_
  rintro _ m1 ⟨r2, rfl, hm1⟩
  show Ex E MX11_with Q 4 [(0, .ref 123), (1, .int x1), (2, .int x2), (3, .int x3)] [.int r2] m1
  refine x_popi (dk zX11_with 2 rfl) ?_
  refine x_iload_n 1 rfl rfl (dk zX11_with 3 rfl) ?_
  refine x_callS (as := [.int x1]) (st := []) rfl okRX11_148 npX11_isTown ⟨Nat.le_of_ble_eq_true rfl, Nat.le_of_ble_eq_true rfl⟩ (Nat.le_of_ble_eq_true rfl) (dk zX11_with 4 rfl) ?_
  refine hm1.mono ?_
  rintro _ m3 ⟨r4, rfl, hm3⟩
  show Ex E MX11_with Q 9 [(0, .ref 123), (1, .int x1), (2, .int x2), (3, .int x3)] [.int r4] m3
  refine x_if_eq (tgt := 37) (by decide) (dk zX11_with 5 rfl) (fun c5 => ?_) (fun c5 => ?_)
  · have hc5t := hm3.1 c5
    refine x_bipush (v := -2) (by decide) (dk zX11_with 19 rfl) ?_
    exact x_iret (ty := .int) rfl rfl (dk zX11_with 20 rfl) hc5t
  · have hc5f := hm3.2 c5
    refine x_iload_n 2 rfl rfl (dk zX11_with 6 rfl) ?_
    refine x_callS (as := [.int x2]) (st := []) rfl okRX11_148 npX11_isTown ⟨Nat.le_of_ble_eq_true rfl, Nat.le_of_ble_eq_true rfl⟩ (Nat.le_of_ble_eq_true rfl) (dk zX11_with 7 rfl) ?_
    refine hc5f.mono ?_
    rintro _ m6 ⟨r7, rfl, hm6⟩
    show Ex E MX11_with Q 16 [(0, .ref 123), (1, .int x1), (2, .int x2), (3, .int x3)] [.int r7] m6
    refine x_if_eq (tgt := 37) (by decide) (dk zX11_with 8 rfl) (fun c8 => ?_) (fun c8 => ?_)
    · have hc8t := hm6.1 c8
      refine x_bipush (v := -2) (by decide) (dk zX11_with 19 rfl) ?_
      exact x_iret (ty := .int) rfl rfl (dk zX11_with 20 rfl) hc8t
    · have hc8f := hm6.2 c8
      refine x_iload_n 3 rfl rfl (dk zX11_with 9 rfl) ?_
      refine x_callS (as := [.int x3]) (st := []) rfl okRX11_256 npX11_isTwo ⟨Nat.le_of_ble_eq_true rfl, Nat.le_of_ble_eq_true rfl⟩ (Nat.le_of_ble_eq_true rfl) (dk zX11_with 10 rfl) ?_
      refine hc8f.mono ?_
      rintro _ m9 ⟨r10, rfl, hm9⟩
      show Ex E MX11_with Q 23 [(0, .ref 123), (1, .int x1), (2, .int x2), (3, .int x3)] [.int r10] m9
      refine x_if_eq (tgt := 37) (by decide) (dk zX11_with 11 rfl) (fun c11 => ?_) (fun c11 => ?_)
      · have hc11t := hm9.1 c11
        refine x_bipush (v := -2) (by decide) (dk zX11_with 19 rfl) ?_
        exact x_iret (ty := .int) rfl rfl (dk zX11_with 20 rfl) hc11t
      · have hc11f := hm9.2 c11
        refine x_aload_n 0 rfl rfl (dk zX11_with 12 rfl) ?_
        refine x_iconst (v := -1) (by decide) (dk zX11_with 13 rfl) ?_
        refine x_iload_n 1 rfl rfl (dk zX11_with 14 rfl) ?_
        refine x_iload_n 2 rfl rfl (dk zX11_with 15 rfl) ?_
        refine x_iload_n 3 rfl rfl (dk zX11_with 16 rfl) ?_
        refine x_callV (as := [.int ((-1)), .int x1, .int x2, .int x3]) (o := 123) (ci := 11) (st := []) rfl okRX11_343 npX11_changed ⟨Nat.le_of_ble_eq_true rfl, Nat.le_of_ble_eq_true rfl⟩ k123 (by decide) rfl (Nat.le_of_ble_eq_true rfl) (dk zX11_with 17 rfl) ?_
        refine hc11f.mono ?_
        rintro _ m12 ⟨r13, rfl, hm12⟩
        show Ex E MX11_with Q 34 [(0, .ref 123), (1, .int x1), (2, .int x2), (3, .int x3)] [.int r13] m12
        refine x_goto (tgt := 39) (by decide) (dk zX11_with 18 rfl) ?_
        exact x_iret (ty := .int) rfl rfl (dk zX11_with 20 rfl) hm12
set_option maxRecDepth 20000 in
set_option maxHeartbeats 2000000 in
theorem gX11_write_0 {E : EV} {Q : Po} {μ : Mem} {x1 : Int32} {x2 : Int32} (h : Sp E MX11_isWay [.int x1] μ (fun v m1 => ∃ r2 : Int32, v = some (.int r2) ∧ ((r2 = 0 → Q (some (.int ((-2)))) m1) ∧ (¬ r2 = 0 → Sp E MX11_isSheet [.int x2] m1 (fun v m4 => ∃ r5 : Int32, v = some (.int r5) ∧ ((¬ r5 = 0 → vp_in x2 4 ∧ (((0 ≤ (m4.1 124 x2.toNatClampNeg) → Sp E MX11_findPaper [.ref 123, .int 0, .int x1] m4 (fun v m9 => v = none ∧ (((m9.1 134 0) ≤ (m9.1 125 x2.toNatClampNeg) → ∀ v11 : Int32, v11 = m9.1 134 0 → Ex E MX11_write Q 72 [(0, .ref 123), (1, .int x1), (2, .int x2), (3, .int v11), (4, .int 0)] [] m9) ∧ (¬ (m9.1 134 0) ≤ (m9.1 125 x2.toNatClampNeg) → ∀ v12 : Int32, v12 = m9.1 125 x2.toNatClampNeg → Ex E MX11_write Q 72 [(0, .ref 123), (1, .int x1), (2, .int x2), (3, .int v12), (4, .int 0)] [] m9)))) ∧ (¬ 0 ≤ (m4.1 124 x2.toNatClampNeg) → Sp E MX11_met [.ref 123, .int 1] m4 (fun v m13 => ∃ r14 : Int32, v = some (.int r14) ∧ Q (some (.int r14)) m13))))) ∧ (r5 = 0 → Q (some (.int ((-2)))) m4))))))) : Ex E MX11_write Q 0 [(0, .ref 123), (1, .int x1), (2, .int x2)] [] μ := by
  refine x_iload_n 1 rfl rfl (dk zX11_write 0 rfl) ?_
  refine x_callS (as := [.int x1]) (st := []) rfl okRX11_193 npX11_isWay ⟨Nat.le_of_ble_eq_true rfl, Nat.le_of_ble_eq_true rfl⟩ (Nat.le_of_ble_eq_true rfl) (dk zX11_write 1 rfl) ?_
  refine h.mono ?_
  rintro _ m1 ⟨r2, rfl, hm1⟩
  show Ex E MX11_write Q 4 [(0, .ref 123), (1, .int x1), (2, .int x2)] [.int r2] m1
  refine x_if_eq (tgt := 14) (by decide) (dk zX11_write 2 rfl) (fun c3 => ?_) (fun c3 => ?_)
  · have hc3t := hm1.1 c3
    refine x_bipush (v := -2) (by decide) (dk zX11_write 6 rfl) ?_
    exact x_iret (ty := .int) rfl rfl (dk zX11_write 7 rfl) hc3t
  · have hc3f := hm1.2 c3
    refine x_iload_n 2 rfl rfl (dk zX11_write 3 rfl) ?_
    refine x_callS (as := [.int x2]) (st := []) rfl okRX11_98 npX11_isSheet ⟨Nat.le_of_ble_eq_true rfl, Nat.le_of_ble_eq_true rfl⟩ (Nat.le_of_ble_eq_true rfl) (dk zX11_write 4 rfl) ?_
    refine hc3f.mono ?_
    rintro _ m4 ⟨r5, rfl, hm4⟩
    show Ex E MX11_write Q 11 [(0, .ref 123), (1, .int x1), (2, .int x2)] [.int r5] m4
    refine x_if_ne (tgt := 17) (by decide) (dk zX11_write 5 rfl) (fun c6 => ?_) (fun c6 => ?_)
    · have hc6t := hm4.1 c6
      refine x_aload_n 0 rfl rfl (dk zX11_write 8 rfl) ?_
      refine gf11_0 (r := 124) rfl k123 r123_0 (dk zX11_write 9 rfl) ?_
      refine x_iload_n 2 rfl rfl (dk zX11_write 10 rfl) ?_
      have b7 := hc6t.1
      have hb7 := hc6t.2
      refine y_iald (j := x2.toNatClampNeg) k124 l124 b7 rfl (dk zX11_write 11 rfl) ?_
      refine x_if_ge (tgt := 32) (by decide) (dk zX11_write 12 rfl) (fun c8 => ?_) (fun c8 => ?_)
      · have hc8t := hb7.1 c8
        refine x_aload_n 0 rfl rfl (dk zX11_write 17 rfl) ?_
        refine x_iconst (v := 0) (by decide) (dk zX11_write 18 rfl) ?_
        refine x_iload_n 1 rfl rfl (dk zX11_write 19 rfl) ?_
        refine x_callV (as := [.int 0, .int x1]) (o := 123) (ci := 11) (st := []) rfl okRX11_196 npX11_findPaper ⟨Nat.le_of_ble_eq_true rfl, Nat.le_of_ble_eq_true rfl⟩ k123 (by decide) rfl (Nat.le_of_ble_eq_true rfl) (dk zX11_write 20 rfl) ?_
        refine hc8t.mono ?_
        rintro _ m9 ⟨rfl, hm9⟩
        show Ex E MX11_write Q 38 [(0, .ref 123), (1, .int x1), (2, .int x2)] [] m9
        refine x_aload_n 0 rfl rfl (dk zX11_write 21 rfl) ?_
        refine gf11_1 (r := 125) rfl k123 r123_1 (dk zX11_write 22 rfl) ?_
        refine x_iload_n 2 rfl rfl (dk zX11_write 23 rfl) ?_
        refine y_iald (j := x2.toNatClampNeg) k125 l125 b7 rfl (dk zX11_write 24 rfl) ?_
        refine x_aload_n 0 rfl rfl (dk zX11_write 25 rfl) ?_
        refine gf11_15 (r := 134) rfl k123 r123_15 (dk zX11_write 26 rfl) ?_
        refine x_iconst (v := 0) (by decide) (dk zX11_write 27 rfl) ?_
        refine y_iald (j := 0) k134 l134 (by unfold vp_in; decide) (by decide) (dk zX11_write 28 rfl) ?_
        refine x_icmp_ge (tgt := 62) (by decide) (dk zX11_write 29 rfl) (fun c10 => ?_) (fun c10 => ?_)
        · have hc10t := hm9.1 c10
          refine x_aload_n 0 rfl rfl (dk zX11_write 35 rfl) ?_
          refine gf11_15 (r := 134) rfl k123 r123_15 (dk zX11_write 36 rfl) ?_
          refine x_iconst (v := 0) (by decide) (dk zX11_write 37 rfl) ?_
          refine y_iald (j := 0) k134 l134 (by unfold vp_in; decide) (by decide) (dk zX11_write 38 rfl) ?_
          refine x_topi (fun v11 ev11 => ?_)
          have hv11 := hc10t v11 ev11
          refine x_istore_n (k := 3) (l' := [(0, .ref 123), (1, .int x1), (2, .int x2), (3, .int v11)]) [1, 2, 3, 0] rfl rfl (by decide) (dk zX11_write 39 rfl) ?_
          refine x_iconst (v := 0) (by decide) (dk zX11_write 40 rfl) ?_
          refine x_istoreG (l' := [(0, .ref 123), (1, .int x1), (2, .int x2), (3, .int v11), (4, .int 0)]) [1, 2, 3, 4, 0] rfl (by decide) (dk zX11_write 41 rfl) ?_
          exact hv11
        · have hc10f := hm9.2 c10
          refine x_aload_n 0 rfl rfl (dk zX11_write 30 rfl) ?_
          refine gf11_1 (r := 125) rfl k123 r123_1 (dk zX11_write 31 rfl) ?_
          refine x_iload_n 2 rfl rfl (dk zX11_write 32 rfl) ?_
          refine y_iald (j := x2.toNatClampNeg) k125 l125 b7 rfl (dk zX11_write 33 rfl) ?_
          refine x_goto (tgt := 68) (by decide) (dk zX11_write 34 rfl) ?_
          refine x_topi (fun v12 ev12 => ?_)
          have hv12 := hc10f v12 ev12
          refine x_istore_n (k := 3) (l' := [(0, .ref 123), (1, .int x1), (2, .int x2), (3, .int v12)]) [1, 2, 3, 0] rfl rfl (by decide) (dk zX11_write 39 rfl) ?_
          refine x_iconst (v := 0) (by decide) (dk zX11_write 40 rfl) ?_
          refine x_istoreG (l' := [(0, .ref 123), (1, .int x1), (2, .int x2), (3, .int v12), (4, .int 0)]) [1, 2, 3, 4, 0] rfl (by decide) (dk zX11_write 41 rfl) ?_
          exact hv12
      · have hc8f := hb7.2 c8
        refine x_aload_n 0 rfl rfl (dk zX11_write 13 rfl) ?_
        refine x_iconst (v := 1) (by decide) (dk zX11_write 14 rfl) ?_
        refine x_callV (as := [.int 1]) (o := 123) (ci := 11) (st := []) rfl okRX11_104 npX11_met ⟨Nat.le_of_ble_eq_true rfl, Nat.le_of_ble_eq_true rfl⟩ k123 (by decide) rfl (Nat.le_of_ble_eq_true rfl) (dk zX11_write 15 rfl) ?_
        refine hc8f.mono ?_
        rintro _ m13 ⟨r14, rfl, hm13⟩
        show Ex E MX11_write Q 31 [(0, .ref 123), (1, .int x1), (2, .int x2)] [.int r14] m13
        exact x_iret (ty := .int) rfl rfl (dk zX11_write 16 rfl) hm13
    · have hc6f := hm4.2 c6
      refine x_bipush (v := -2) (by decide) (dk zX11_write 6 rfl) ?_
      exact x_iret (ty := .int) rfl rfl (dk zX11_write 7 rfl) hc6f
set_option maxRecDepth 20000 in
set_option maxHeartbeats 2000000 in
theorem gX11_write_72 {E : EV} {Q : Po} {μ : Mem} {x1 : Int32} {x2 : Int32} {x3 : Int32} {x4 : Int32} (h : ((x3 ≤ x4 → Q (some (.int x3)) μ) ∧ (¬ x3 ≤ x4 → vp_in x2 4 ∧ (vp_in x4 120 ∧ (Sp E MX11_byteOf [.int (μ.1 133 x4.toNatClampNeg)] μ (fun v m4 => ∃ r5 : Int32, v = some (.int r5) ∧ Sp E MX11_cut [.int (μ.1 124 x2.toNatClampNeg), .int r5] m4 (fun v m6 => ∃ r7 : Int32, v = some (.int r7) ∧ vp_in ((60 * x2) + x4) 240 ∧ (∀ v9 : Int32, v9 = x4 + 1 → Ex E MX11_write Q 72 [(0, .ref 123), (1, .int x1), (2, .int x2), (3, .int x3), (4, .int v9)] [] (mI m6 126 (((60 * x2) + x4).toNatClampNeg) r7))))))))) : Ex E MX11_write Q 72 [(0, .ref 123), (1, .int x1), (2, .int x2), (3, .int x3), (4, .int x4)] [] μ := by
  refine x_iload 4 rfl (dk zX11_write 42 rfl) ?_
  refine x_iload_n 3 rfl rfl (dk zX11_write 43 rfl) ?_
  refine x_icmp_ge (tgt := 115) (by decide) (dk zX11_write 44 rfl) (fun c1 => ?_) (fun c1 => ?_)
  · have hc1t := h.1 c1
    refine x_iload_n 3 rfl rfl (dk zX11_write 65 rfl) ?_
    exact x_iret (ty := .int) rfl rfl (dk zX11_write 66 rfl) hc1t
  · have hc1f := h.2 c1
    refine x_aload_n 0 rfl rfl (dk zX11_write 45 rfl) ?_
    refine gf11_2 (r := 126) rfl k123 r123_2 (dk zX11_write 46 rfl) ?_
    refine x_bipush (v := 60) (by decide) (dk zX11_write 47 rfl) ?_
    refine x_iload_n 2 rfl rfl (dk zX11_write 48 rfl) ?_
    refine x_imul (dk zX11_write 49 rfl) ?_
    refine x_iload 4 rfl (dk zX11_write 50 rfl) ?_
    refine x_iadd (dk zX11_write 51 rfl) ?_
    refine x_aload_n 0 rfl rfl (dk zX11_write 52 rfl) ?_
    refine gf11_0 (r := 124) rfl k123 r123_0 (dk zX11_write 53 rfl) ?_
    refine x_iload_n 2 rfl rfl (dk zX11_write 54 rfl) ?_
    have b2 := hc1f.1
    have hb2 := hc1f.2
    refine y_iald (j := x2.toNatClampNeg) k124 l124 b2 rfl (dk zX11_write 55 rfl) ?_
    refine x_aload_n 0 rfl rfl (dk zX11_write 56 rfl) ?_
    refine gf11_14 (r := 133) rfl k123 r123_14 (dk zX11_write 57 rfl) ?_
    refine x_iload 4 rfl (dk zX11_write 58 rfl) ?_
    have b3 := hb2.1
    have hb3 := hb2.2
    refine y_iald (j := x4.toNatClampNeg) k133 l133 b3 rfl (dk zX11_write 59 rfl) ?_
    refine x_callS (as := [.int (μ.1 133 x4.toNatClampNeg)]) (st := [.int (μ.1 124 x2.toNatClampNeg), .int ((60 * x2) + x4), .ref 126]) rfl okRX11_199 npX11_byteOf ⟨Nat.le_of_ble_eq_true rfl, Nat.le_of_ble_eq_true rfl⟩ (Nat.le_of_ble_eq_true rfl) (dk zX11_write 60 rfl) ?_
    refine hb3.mono ?_
    rintro _ m4 ⟨r5, rfl, hm4⟩
    show Ex E MX11_write Q 105 [(0, .ref 123), (1, .int x1), (2, .int x2), (3, .int x3), (4, .int x4)] [.int r5, .int (μ.1 124 x2.toNatClampNeg), .int ((60 * x2) + x4), .ref 126] m4
    refine x_callS (as := [.int (μ.1 124 x2.toNatClampNeg), .int r5]) (st := [.int ((60 * x2) + x4), .ref 126]) rfl okRX11_112 npX11_cut ⟨Nat.le_of_ble_eq_true rfl, Nat.le_of_ble_eq_true rfl⟩ (Nat.le_of_ble_eq_true rfl) (dk zX11_write 61 rfl) ?_
    refine hm4.mono ?_
    rintro _ m6 ⟨r7, rfl, hm6⟩
    show Ex E MX11_write Q 108 [(0, .ref 123), (1, .int x1), (2, .int x2), (3, .int x3), (4, .int x4)] [.int r7, .int ((60 * x2) + x4), .ref 126] m6
    have b8 := hm6.1
    have hb8 := hm6.2
    refine y_iast (j := ((60 * x2) + x4).toNatClampNeg) k126 l126 b8 rfl (dk zX11_write 62 rfl) ?_
    obtain ⟨v9, ev9⟩ : ∃ y : Int32, y = x4 + 1 := ⟨_, rfl⟩
    have hv9 := hb8 v9 ev9
    refine x_iinc (v := v9) (l' := [(0, .ref 123), (1, .int x1), (2, .int x2), (3, .int x3), (4, .int v9)]) 4 rfl (by rw [ev9]; rfl) [1, 2, 3, 4, 0] rfl (by decide) (dk zX11_write 63 rfl) ?_
    refine x_goto (tgt := 72) (by decide) (dk zX11_write 64 rfl) ?_
    exact hv9
set_option maxRecDepth 20000 in
set_option maxHeartbeats 2000000 in
theorem gX11_count_0 {E : EV} {Q : Po} {μ : Mem} {x1 : Int32} (h : Sp E MX11_readsLand [.ref 123] μ (fun v m1 => ∃ r2 : Int32, v = some (.int r2) ∧ ((x1 = 0 → Q (some (.int (m1.1 123 8))) m1) ∧ ((x1 = 1 → Ex E MX11_count Q 67 [(0, .ref 123), (1, .int x1), (2, .int 0), (3, .int 0)] [] m1) ∧ ((x1 = 2 → vp_in (x1 - 2) 4 ∧ (Q (some (.int (m1.1 129 ((x1 - 2).toNatClampNeg)))) m1)) ∧ ((x1 = 3 → vp_in (x1 - 2) 4 ∧ (Q (some (.int (m1.1 129 ((x1 - 2).toNatClampNeg)))) m1)) ∧ ((x1 = 4 → vp_in (x1 - 2) 4 ∧ (Q (some (.int (m1.1 129 ((x1 - 2).toNatClampNeg)))) m1)) ∧ ((x1 = 5 → vp_in (x1 - 2) 4 ∧ (Q (some (.int (m1.1 129 ((x1 - 2).toNatClampNeg)))) m1)) ∧ ((x1 = 6 → Q (some (.int (m1.1 123 28))) m1) ∧ ((x1 = 7 → Ex E MX11_count Q 116 [(0, .ref 123), (1, .int x1), (2, .int 0), (3, .int 0)] [] m1) ∧ ((x1 = 8 → Q (some (.int (m1.1 123 4))) m1) ∧ (¬ x1 = 0 → ¬ x1 = 1 → ¬ x1 = 2 → ¬ x1 = 3 → ¬ x1 = 4 → ¬ x1 = 5 → ¬ x1 = 6 → ¬ x1 = 7 → ¬ x1 = 8 → Q (some (.int ((-2)))) m1)))))))))))) : Ex E MX11_count Q 0 [(0, .ref 123), (1, .int x1)] [] μ := by
  refine x_iconst (v := 0) (by decide) (dk zX11_count 0 rfl) ?_
  refine x_istore_n (k := 2) (l' := [(0, .ref 123), (1, .int x1), (2, .int 0)]) [1, 2, 0] rfl rfl (by decide) (dk zX11_count 1 rfl) ?_
  refine x_aload_n 0 rfl rfl (dk zX11_count 2 rfl) ?_
  refine x_callV (as := []) (o := 123) (ci := 11) (st := []) rfl okRX11_157 npX11_readsLand ⟨Nat.le_of_ble_eq_true rfl, Nat.le_of_ble_eq_true rfl⟩ k123 (by decide) rfl (Nat.le_of_ble_eq_true rfl) (dk zX11_count 3 rfl) ?_
  refine h.mono ?_
  rintro _ m1 ⟨r2, rfl, hm1⟩
  show Ex E MX11_count Q 6 [(0, .ref 123), (1, .int x1), (2, .int 0)] [.int r2] m1
  refine x_popi (dk zX11_count 4 rfl) ?_
  refine x_iload_n 1 rfl rfl (dk zX11_count 5 rfl) ?_
  by_cases c3 : x1 = 0
  · have hc3 := hm1.1 c3
    refine x_tabIn (off := 52) (tgt := 60) (by rw [c3]; decide) (by rw [c3]; decide) (by rw [c3]; rfl) (by decide) (dk zX11_count 6 rfl) ?_
    refine x_aload_n 0 rfl rfl (dk zX11_count 7 rfl) ?_
    refine gf11_8 rfl k123 (dk zX11_count 8 rfl) ?_
    exact x_iret (ty := .int) rfl rfl (dk zX11_count 9 rfl) hc3
  by_cases c4 : x1 = 1
  · have hc4 := hm1.2.1 c4
    refine x_tabIn (off := 57) (tgt := 65) (by rw [c4]; decide) (by rw [c4]; decide) (by rw [c4]; rfl) (by decide) (dk zX11_count 6 rfl) ?_
    refine x_iconst (v := 0) (by decide) (dk zX11_count 10 rfl) ?_
    refine x_istore_n (k := 3) (l' := [(0, .ref 123), (1, .int x1), (2, .int 0), (3, .int 0)]) [1, 2, 3, 0] rfl rfl (by decide) (dk zX11_count 11 rfl) ?_
    exact hc4
  by_cases c5 : x1 = 2
  · have hc5 := hm1.2.2.1 c5
    refine x_tabIn (off := 92) (tgt := 100) (by rw [c5]; decide) (by rw [c5]; decide) (by rw [c5]; rfl) (by decide) (dk zX11_count 6 rfl) ?_
    refine x_aload_n 0 rfl rfl (dk zX11_count 31 rfl) ?_
    refine gf11_6 (r := 129) rfl k123 r123_6 (dk zX11_count 32 rfl) ?_
    refine x_iload_n 1 rfl rfl (dk zX11_count 33 rfl) ?_
    refine x_iconst (v := 2) (by decide) (dk zX11_count 34 rfl) ?_
    refine x_isub (dk zX11_count 35 rfl) ?_
    have b6 := hc5.1
    have hb6 := hc5.2
    refine y_iald (j := (x1 - 2).toNatClampNeg) k129 l129 b6 rfl (dk zX11_count 36 rfl) ?_
    exact x_iret (ty := .int) rfl rfl (dk zX11_count 37 rfl) hb6
  by_cases c7 : x1 = 3
  · have hc7 := hm1.2.2.2.1 c7
    refine x_tabIn (off := 92) (tgt := 100) (by rw [c7]; decide) (by rw [c7]; decide) (by rw [c7]; rfl) (by decide) (dk zX11_count 6 rfl) ?_
    refine x_aload_n 0 rfl rfl (dk zX11_count 31 rfl) ?_
    refine gf11_6 (r := 129) rfl k123 r123_6 (dk zX11_count 32 rfl) ?_
    refine x_iload_n 1 rfl rfl (dk zX11_count 33 rfl) ?_
    refine x_iconst (v := 2) (by decide) (dk zX11_count 34 rfl) ?_
    refine x_isub (dk zX11_count 35 rfl) ?_
    have b8 := hc7.1
    have hb8 := hc7.2
    refine y_iald (j := (x1 - 2).toNatClampNeg) k129 l129 b8 rfl (dk zX11_count 36 rfl) ?_
    exact x_iret (ty := .int) rfl rfl (dk zX11_count 37 rfl) hb8
  by_cases c9 : x1 = 4
  · have hc9 := hm1.2.2.2.2.1 c9
    refine x_tabIn (off := 92) (tgt := 100) (by rw [c9]; decide) (by rw [c9]; decide) (by rw [c9]; rfl) (by decide) (dk zX11_count 6 rfl) ?_
    refine x_aload_n 0 rfl rfl (dk zX11_count 31 rfl) ?_
    refine gf11_6 (r := 129) rfl k123 r123_6 (dk zX11_count 32 rfl) ?_
    refine x_iload_n 1 rfl rfl (dk zX11_count 33 rfl) ?_
    refine x_iconst (v := 2) (by decide) (dk zX11_count 34 rfl) ?_
    refine x_isub (dk zX11_count 35 rfl) ?_
    have b10 := hc9.1
    have hb10 := hc9.2
    refine y_iald (j := (x1 - 2).toNatClampNeg) k129 l129 b10 rfl (dk zX11_count 36 rfl) ?_
    exact x_iret (ty := .int) rfl rfl (dk zX11_count 37 rfl) hb10
  by_cases c11 : x1 = 5
  · have hc11 := hm1.2.2.2.2.2.1 c11
    refine x_tabIn (off := 92) (tgt := 100) (by rw [c11]; decide) (by rw [c11]; decide) (by rw [c11]; rfl) (by decide) (dk zX11_count 6 rfl) ?_
    refine x_aload_n 0 rfl rfl (dk zX11_count 31 rfl) ?_
    refine gf11_6 (r := 129) rfl k123 r123_6 (dk zX11_count 32 rfl) ?_
    refine x_iload_n 1 rfl rfl (dk zX11_count 33 rfl) ?_
    refine x_iconst (v := 2) (by decide) (dk zX11_count 34 rfl) ?_
    refine x_isub (dk zX11_count 35 rfl) ?_
    have b12 := hc11.1
    have hb12 := hc11.2
    refine y_iald (j := (x1 - 2).toNatClampNeg) k129 l129 b12 rfl (dk zX11_count 36 rfl) ?_
    exact x_iret (ty := .int) rfl rfl (dk zX11_count 37 rfl) hb12
  by_cases c13 : x1 = 6
  · have hc13 := hm1.2.2.2.2.2.2.1 c13
    refine x_tabIn (off := 101) (tgt := 109) (by rw [c13]; decide) (by rw [c13]; decide) (by rw [c13]; rfl) (by decide) (dk zX11_count 6 rfl) ?_
    refine x_aload_n 0 rfl rfl (dk zX11_count 38 rfl) ?_
    refine gf11_28 rfl k123 (dk zX11_count 39 rfl) ?_
    exact x_iret (ty := .int) rfl rfl (dk zX11_count 40 rfl) hc13
  by_cases c14 : x1 = 7
  · have hc14 := hm1.2.2.2.2.2.2.2.1 c14
    refine x_tabIn (off := 106) (tgt := 114) (by rw [c14]; decide) (by rw [c14]; decide) (by rw [c14]; rfl) (by decide) (dk zX11_count 6 rfl) ?_
    refine x_iconst (v := 0) (by decide) (dk zX11_count 41 rfl) ?_
    refine x_istore_n (k := 3) (l' := [(0, .ref 123), (1, .int x1), (2, .int 0), (3, .int 0)]) [1, 2, 3, 0] rfl rfl (by decide) (dk zX11_count 42 rfl) ?_
    exact hc14
  by_cases c15 : x1 = 8
  · have hc15 := hm1.2.2.2.2.2.2.2.2.1 c15
    refine x_tabIn (off := 141) (tgt := 149) (by rw [c15]; decide) (by rw [c15]; decide) (by rw [c15]; rfl) (by decide) (dk zX11_count 6 rfl) ?_
    refine x_aload_n 0 rfl rfl (dk zX11_count 62 rfl) ?_
    refine gf11_4 rfl k123 (dk zX11_count 63 rfl) ?_
    exact x_iret (ty := .int) rfl rfl (dk zX11_count 64 rfl) hc15
  have hd16 := hm1.2.2.2.2.2.2.2.2.2 c3 c4 c5 c7 c9 c11 c13 c14 c15
  refine x_tabOut (tgt := 154) (by have := lv_neT (a := 0) c3 (by decide); have := lv_neT (a := 1) c4 (by decide); have := lv_neT (a := 2) c5 (by decide); have := lv_neT (a := 3) c7 (by decide); have := lv_neT (a := 4) c9 (by decide); have := lv_neT (a := 5) c11 (by decide); have := lv_neT (a := 6) c13 (by decide); have := lv_neT (a := 7) c14 (by decide); have := lv_neT (a := 8) c15 (by decide); omega) (by decide) (dk zX11_count 6 rfl) ?_
  refine x_bipush (v := -2) (by decide) (dk zX11_count 65 rfl) ?_
  exact x_iret (ty := .int) rfl rfl (dk zX11_count 66 rfl) hd16
set_option maxRecDepth 20000 in
set_option maxHeartbeats 2000000 in
theorem gX11_count_67 {E : EV} {Q : Po} {μ : Mem} {x1 : Int32} {x2 : Int32} {x3 : Int32} (h : (((μ.1 123 8) ≤ x3 → Q (some (.int x2)) μ) ∧ (¬ (μ.1 123 8) ≤ x3 → vp_in x3 9 ∧ ((((μ.1 132 x3.toNatClampNeg) = 0 → ∀ v4 : Int32, v4 = x2 + 0 → ∀ v5 : Int32, v5 = x3 + 1 → Ex E MX11_count Q 67 [(0, .ref 123), (1, .int x1), (2, .int v4), (3, .int v5)] [] μ) ∧ (¬ (μ.1 132 x3.toNatClampNeg) = 0 → ∀ v6 : Int32, v6 = x2 + 1 → ∀ v7 : Int32, v7 = x3 + 1 → Ex E MX11_count Q 67 [(0, .ref 123), (1, .int x1), (2, .int v6), (3, .int v7)] [] μ)))))) : Ex E MX11_count Q 67 [(0, .ref 123), (1, .int x1), (2, .int x2), (3, .int x3)] [] μ := by
  refine x_iload_n 3 rfl rfl (dk zX11_count 12 rfl) ?_
  refine x_aload_n 0 rfl rfl (dk zX11_count 13 rfl) ?_
  refine gf11_8 rfl k123 (dk zX11_count 14 rfl) ?_
  refine x_icmp_ge (tgt := 98) (by decide) (dk zX11_count 15 rfl) (fun c1 => ?_) (fun c1 => ?_)
  · have hc1t := h.1 c1
    refine x_iload_n 2 rfl rfl (dk zX11_count 29 rfl) ?_
    exact x_iret (ty := .int) rfl rfl (dk zX11_count 30 rfl) hc1t
  · have hc1f := h.2 c1
    refine x_iload_n 2 rfl rfl (dk zX11_count 16 rfl) ?_
    refine x_aload_n 0 rfl rfl (dk zX11_count 17 rfl) ?_
    refine gf11_11 (r := 132) rfl k123 r123_11 (dk zX11_count 18 rfl) ?_
    refine x_iload_n 3 rfl rfl (dk zX11_count 19 rfl) ?_
    have b2 := hc1f.1
    have hb2 := hc1f.2
    refine y_zald (j := x3.toNatClampNeg) k132 l132 b2 rfl (dk zX11_count 20 rfl) ?_
    refine x_if_eq (tgt := 89) (by decide) (dk zX11_count 21 rfl) (fun c3 => ?_) (fun c3 => ?_)
    · have hc3t := hb2.1 c3
      refine x_iconst (v := 0) (by decide) (dk zX11_count 24 rfl) ?_
      refine x_iadd (dk zX11_count 25 rfl) ?_
      refine x_topi (fun v4 ev4 => ?_)
      have hv4 := hc3t v4 ev4
      refine x_istore_n (k := 2) (l' := [(0, .ref 123), (1, .int x1), (2, .int v4), (3, .int x3)]) [1, 2, 0, 3] rfl rfl (by decide) (dk zX11_count 26 rfl) ?_
      obtain ⟨v5, ev5⟩ : ∃ y : Int32, y = x3 + 1 := ⟨_, rfl⟩
      have hv5 := hv4 v5 ev5
      refine x_iinc (v := v5) (l' := [(0, .ref 123), (1, .int x1), (2, .int v4), (3, .int v5)]) 3 rfl (by rw [ev5]; rfl) [1, 2, 3, 0] rfl (by decide) (dk zX11_count 27 rfl) ?_
      refine x_goto (tgt := 67) (by decide) (dk zX11_count 28 rfl) ?_
      exact hv5
    · have hc3f := hb2.2 c3
      refine x_iconst (v := 1) (by decide) (dk zX11_count 22 rfl) ?_
      refine x_goto (tgt := 90) (by decide) (dk zX11_count 23 rfl) ?_
      refine x_iadd (dk zX11_count 25 rfl) ?_
      refine x_topi (fun v6 ev6 => ?_)
      have hv6 := hc3f v6 ev6
      refine x_istore_n (k := 2) (l' := [(0, .ref 123), (1, .int x1), (2, .int v6), (3, .int x3)]) [1, 2, 0, 3] rfl rfl (by decide) (dk zX11_count 26 rfl) ?_
      obtain ⟨v7, ev7⟩ : ∃ y : Int32, y = x3 + 1 := ⟨_, rfl⟩
      have hv7 := hv6 v7 ev7
      refine x_iinc (v := v7) (l' := [(0, .ref 123), (1, .int x1), (2, .int v6), (3, .int v7)]) 3 rfl (by rw [ev7]; rfl) [1, 2, 3, 0] rfl (by decide) (dk zX11_count 27 rfl) ?_
      refine x_goto (tgt := 67) (by decide) (dk zX11_count 28 rfl) ?_
      exact hv7
set_option maxRecDepth 20000 in
set_option maxHeartbeats 2000000 in
theorem gX11_count_116 {E : EV} {Q : Po} {μ : Mem} {x1 : Int32} {x2 : Int32} {x3 : Int32} (h : (((μ.1 123 28) ≤ x3 → Q (some (.int x2)) μ) ∧ (¬ (μ.1 123 28) ≤ x3 → vp_in x3 12 ∧ ((((μ.1 144 x3.toNatClampNeg) = 0 → ∀ v4 : Int32, v4 = x2 + 0 → ∀ v5 : Int32, v5 = x3 + 1 → Ex E MX11_count Q 116 [(0, .ref 123), (1, .int x1), (2, .int v4), (3, .int v5)] [] μ) ∧ (¬ (μ.1 144 x3.toNatClampNeg) = 0 → ∀ v6 : Int32, v6 = x2 + 1 → ∀ v7 : Int32, v7 = x3 + 1 → Ex E MX11_count Q 116 [(0, .ref 123), (1, .int x1), (2, .int v6), (3, .int v7)] [] μ)))))) : Ex E MX11_count Q 116 [(0, .ref 123), (1, .int x1), (2, .int x2), (3, .int x3)] [] μ := by
  refine x_iload_n 3 rfl rfl (dk zX11_count 43 rfl) ?_
  refine x_aload_n 0 rfl rfl (dk zX11_count 44 rfl) ?_
  refine gf11_28 rfl k123 (dk zX11_count 45 rfl) ?_
  refine x_icmp_ge (tgt := 147) (by decide) (dk zX11_count 46 rfl) (fun c1 => ?_) (fun c1 => ?_)
  · have hc1t := h.1 c1
    refine x_iload_n 2 rfl rfl (dk zX11_count 60 rfl) ?_
    exact x_iret (ty := .int) rfl rfl (dk zX11_count 61 rfl) hc1t
  · have hc1f := h.2 c1
    refine x_iload_n 2 rfl rfl (dk zX11_count 47 rfl) ?_
    refine x_aload_n 0 rfl rfl (dk zX11_count 48 rfl) ?_
    refine gf11_31 (r := 144) rfl k123 r123_31 (dk zX11_count 49 rfl) ?_
    refine x_iload_n 3 rfl rfl (dk zX11_count 50 rfl) ?_
    have b2 := hc1f.1
    have hb2 := hc1f.2
    refine y_zald (j := x3.toNatClampNeg) k144 l144 b2 rfl (dk zX11_count 51 rfl) ?_
    refine x_if_eq (tgt := 138) (by decide) (dk zX11_count 52 rfl) (fun c3 => ?_) (fun c3 => ?_)
    · have hc3t := hb2.1 c3
      refine x_iconst (v := 0) (by decide) (dk zX11_count 55 rfl) ?_
      refine x_iadd (dk zX11_count 56 rfl) ?_
      refine x_topi (fun v4 ev4 => ?_)
      have hv4 := hc3t v4 ev4
      refine x_istore_n (k := 2) (l' := [(0, .ref 123), (1, .int x1), (2, .int v4), (3, .int x3)]) [1, 2, 0, 3] rfl rfl (by decide) (dk zX11_count 57 rfl) ?_
      obtain ⟨v5, ev5⟩ : ∃ y : Int32, y = x3 + 1 := ⟨_, rfl⟩
      have hv5 := hv4 v5 ev5
      refine x_iinc (v := v5) (l' := [(0, .ref 123), (1, .int x1), (2, .int v4), (3, .int v5)]) 3 rfl (by rw [ev5]; rfl) [1, 2, 3, 0] rfl (by decide) (dk zX11_count 58 rfl) ?_
      refine x_goto (tgt := 116) (by decide) (dk zX11_count 59 rfl) ?_
      exact hv5
    · have hc3f := hb2.2 c3
      refine x_iconst (v := 1) (by decide) (dk zX11_count 53 rfl) ?_
      refine x_goto (tgt := 139) (by decide) (dk zX11_count 54 rfl) ?_
      refine x_iadd (dk zX11_count 56 rfl) ?_
      refine x_topi (fun v6 ev6 => ?_)
      have hv6 := hc3f v6 ev6
      refine x_istore_n (k := 2) (l' := [(0, .ref 123), (1, .int x1), (2, .int v6), (3, .int x3)]) [1, 2, 0, 3] rfl rfl (by decide) (dk zX11_count 57 rfl) ?_
      obtain ⟨v7, ev7⟩ : ∃ y : Int32, y = x3 + 1 := ⟨_, rfl⟩
      have hv7 := hv6 v7 ev7
      refine x_iinc (v := v7) (l' := [(0, .ref 123), (1, .int x1), (2, .int v6), (3, .int v7)]) 3 rfl (by rw [ev7]; rfl) [1, 2, 3, 0] rfl (by decide) (dk zX11_count 58 rfl) ?_
      refine x_goto (tgt := 116) (by decide) (dk zX11_count 59 rfl) ?_
      exact hv7
set_option maxRecDepth 20000 in
set_option maxHeartbeats 2000000 in
theorem gX11_digest_0 {E : EV} {Q : Po} {μ : Mem}  (h : Ex E MX11_digest Q 6 [(0, .ref 123), (1, .long ((17))), (3, .int 0)] [] μ) : Ex E MX11_digest Q 0 [(0, .ref 123)] [] μ := by
  refine x_ldc2 (v := 17) rfl wkRX11_346 (dk zX11_digest 0 rfl) ?_
  refine x_lstore_n (k := 1) (l' := [(0, .ref 123), (1, .long ((17)))]) [1, 0] rfl rfl (by decide) (dk zX11_digest 1 rfl) ?_
  refine x_iconst (v := 0) (by decide) (dk zX11_digest 2 rfl) ?_
  refine x_istore_n (k := 3) (l' := [(0, .ref 123), (1, .long ((17))), (3, .int 0)]) [1, 2, 0] rfl rfl (by decide) (dk zX11_digest 3 rfl) ?_
  exact h
set_option maxRecDepth 20000 in
set_option maxHeartbeats 2000000 in
theorem gX11_digest_6 {E : EV} {Q : Po} {μ : Mem} {x1 : Int64} {x3 : Int32} (h : ((8 ≤ x3 → Ex E MX11_digest Q 33 [(0, .ref 123), (1, .long x1), (3, .int 0)] [] μ) ∧ (¬ 8 ≤ x3 → Sp E MX11_count [.ref 123, .int x3] μ (fun v m2 => ∃ r3 : Int32, v = some (.int r3) ∧ ∀ v4 : Int64, v4 = (((31)) * x1) + (Int32.toInt64 r3) → ∀ v5 : Int32, v5 = x3 + 1 → Ex E MX11_digest Q 6 [(0, .ref 123), (1, .long v4), (3, .int v5)] [] m2)))) : Ex E MX11_digest Q 6 [(0, .ref 123), (1, .long x1), (3, .int x3)] [] μ := by
  refine x_iload_n 2 rfl rfl (dk zX11_digest 4 rfl) ?_
  refine x_bipush (v := 8) (by decide) (dk zX11_digest 5 rfl) ?_
  refine x_icmp_ge (tgt := 31) (by decide) (dk zX11_digest 6 rfl) (fun c1 => ?_) (fun c1 => ?_)
  · have hc1t := h.1 c1
    refine x_iconst (v := 0) (by decide) (dk zX11_digest 18 rfl) ?_
    refine x_istore_n (k := 3) (l' := [(0, .ref 123), (1, .long x1), (3, .int 0)]) [1, 2, 0] rfl rfl (by decide) (dk zX11_digest 19 rfl) ?_
    exact hc1t
  · have hc1f := h.2 c1
    refine x_ldc2 (v := 31) rfl wkRX11_348 (dk zX11_digest 7 rfl) ?_
    refine x_lload_n 1 rfl rfl (dk zX11_digest 8 rfl) ?_
    refine x_lmul (dk zX11_digest 9 rfl) ?_
    refine x_aload_n 0 rfl rfl (dk zX11_digest 10 rfl) ?_
    refine x_iload_n 2 rfl rfl (dk zX11_digest 11 rfl) ?_
    refine x_callV (as := [.int x3]) (o := 123) (ci := 11) (st := [.long (((31)) * x1)]) rfl okRX11_350 npX11_count ⟨Nat.le_of_ble_eq_true rfl, Nat.le_of_ble_eq_true rfl⟩ k123 (by decide) rfl (Nat.le_of_ble_eq_true rfl) (dk zX11_digest 12 rfl) ?_
    refine hc1f.mono ?_
    rintro _ m2 ⟨r3, rfl, hm2⟩
    show Ex E MX11_digest Q 22 [(0, .ref 123), (1, .long x1), (3, .int x3)] [.int r3, .long (((31)) * x1)] m2
    refine x_i2l (dk zX11_digest 13 rfl) ?_
    refine x_ladd (dk zX11_digest 14 rfl) ?_
    refine x_topl (fun v4 ev4 => ?_)
    have hv4 := hm2 v4 ev4
    refine x_lstore_n (k := 1) (l' := [(0, .ref 123), (1, .long v4), (3, .int x3)]) [1, 0, 2] rfl rfl (by decide) (dk zX11_digest 15 rfl) ?_
    obtain ⟨v5, ev5⟩ : ∃ y : Int32, y = x3 + 1 := ⟨_, rfl⟩
    have hv5 := hv4 v5 ev5
    refine x_iinc (v := v5) (l' := [(0, .ref 123), (1, .long v4), (3, .int v5)]) 2 rfl (by rw [ev5]; rfl) [1, 2, 0] rfl (by decide) (dk zX11_digest 16 rfl) ?_
    refine x_goto (tgt := 6) (by decide) (dk zX11_digest 17 rfl) ?_
    exact hv5
set_option maxRecDepth 20000 in
set_option maxHeartbeats 2000000 in
theorem gX11_digest_33 {E : EV} {Q : Po} {μ : Mem} {x1 : Int64} {x3 : Int32} (h : ((4 ≤ x3 → ∀ v2 : Int64, v2 = (((31)) * x1) + (Int32.toInt64 (μ.1 123 12)) → Ex E MX11_digest Q 71 [(0, .ref 123), (1, .long v2), (3, .int 0)] [] μ) ∧ (¬ 4 ≤ x3 → Sp E MX11_faultOf [.ref 123, .int x3] μ (fun v m3 => ∃ r4 : Int32, v = some (.int r4) ∧ ∀ v5 : Int64, v5 = (((31)) * x1) + (Int32.toInt64 r4) → ∀ v6 : Int32, v6 = x3 + 1 → Ex E MX11_digest Q 33 [(0, .ref 123), (1, .long v5), (3, .int v6)] [] m3)))) : Ex E MX11_digest Q 33 [(0, .ref 123), (1, .long x1), (3, .int x3)] [] μ := by
  refine x_iload_n 2 rfl rfl (dk zX11_digest 20 rfl) ?_
  refine x_iconst (v := 4) (by decide) (dk zX11_digest 21 rfl) ?_
  refine x_icmp_ge (tgt := 57) (by decide) (dk zX11_digest 22 rfl) (fun c1 => ?_) (fun c1 => ?_)
  · have hc1t := h.1 c1
    refine x_ldc2 (v := 31) rfl wkRX11_348 (dk zX11_digest 34 rfl) ?_
    refine x_lload_n 1 rfl rfl (dk zX11_digest 35 rfl) ?_
    refine x_lmul (dk zX11_digest 36 rfl) ?_
    refine x_aload_n 0 rfl rfl (dk zX11_digest 37 rfl) ?_
    refine gf11_12 rfl k123 (dk zX11_digest 38 rfl) ?_
    refine x_i2l (dk zX11_digest 39 rfl) ?_
    refine x_ladd (dk zX11_digest 40 rfl) ?_
    refine x_topl (fun v2 ev2 => ?_)
    have hv2 := hc1t v2 ev2
    refine x_lstore_n (k := 1) (l' := [(0, .ref 123), (1, .long v2), (3, .int x3)]) [1, 0, 2] rfl rfl (by decide) (dk zX11_digest 41 rfl) ?_
    refine x_iconst (v := 0) (by decide) (dk zX11_digest 42 rfl) ?_
    refine x_istore_n (k := 3) (l' := [(0, .ref 123), (1, .long v2), (3, .int 0)]) [1, 2, 0] rfl rfl (by decide) (dk zX11_digest 43 rfl) ?_
    exact hv2
  · have hc1f := h.2 c1
    refine x_ldc2 (v := 31) rfl wkRX11_348 (dk zX11_digest 23 rfl) ?_
    refine x_lload_n 1 rfl rfl (dk zX11_digest 24 rfl) ?_
    refine x_lmul (dk zX11_digest 25 rfl) ?_
    refine x_aload_n 0 rfl rfl (dk zX11_digest 26 rfl) ?_
    refine x_iload_n 2 rfl rfl (dk zX11_digest 27 rfl) ?_
    refine x_callV (as := [.int x3]) (o := 123) (ci := 11) (st := [.long (((31)) * x1)]) rfl okRX11_163 npX11_faultOf ⟨Nat.le_of_ble_eq_true rfl, Nat.le_of_ble_eq_true rfl⟩ k123 (by decide) rfl (Nat.le_of_ble_eq_true rfl) (dk zX11_digest 28 rfl) ?_
    refine hc1f.mono ?_
    rintro _ m3 ⟨r4, rfl, hm3⟩
    show Ex E MX11_digest Q 48 [(0, .ref 123), (1, .long x1), (3, .int x3)] [.int r4, .long (((31)) * x1)] m3
    refine x_i2l (dk zX11_digest 29 rfl) ?_
    refine x_ladd (dk zX11_digest 30 rfl) ?_
    refine x_topl (fun v5 ev5 => ?_)
    have hv5 := hm3 v5 ev5
    refine x_lstore_n (k := 1) (l' := [(0, .ref 123), (1, .long v5), (3, .int x3)]) [1, 0, 2] rfl rfl (by decide) (dk zX11_digest 31 rfl) ?_
    obtain ⟨v6, ev6⟩ : ∃ y : Int32, y = x3 + 1 := ⟨_, rfl⟩
    have hv6 := hv5 v6 ev6
    refine x_iinc (v := v6) (l' := [(0, .ref 123), (1, .long v5), (3, .int v6)]) 2 rfl (by rw [ev6]; rfl) [1, 2, 0] rfl (by decide) (dk zX11_digest 32 rfl) ?_
    refine x_goto (tgt := 33) (by decide) (dk zX11_digest 33 rfl) ?_
    exact hv6
set_option maxRecDepth 20000 in
set_option maxHeartbeats 2000000 in
theorem gX11_digest_71 {E : EV} {Q : Po} {μ : Mem} {x1 : Int64} {x3 : Int32} (h : (((μ.1 123 8) ≤ x3 → Ex E MX11_digest Q 190 [(0, .ref 123), (1, .long x1), (3, .int 1)] [] μ) ∧ (¬ (μ.1 123 8) ≤ x3 → vp_in x3 9 ∧ (∀ v3 : Int64, v3 = (((31)) * x1) + (Int32.toInt64 (μ.1 130 x3.toNatClampNeg)) → ∀ v4 : Int64, v4 = (((31)) * v3) + (Int32.toInt64 (μ.1 131 x3.toNatClampNeg)) → (((μ.1 132 x3.toNatClampNeg) = 0 → ∀ v6 : Int64, v6 = (((31)) * v4) + (Int32.toInt64 0) → Sp E MX11_isShut [.ref 123, .int x3] μ (fun v m7 => ∃ r8 : Int32, v = some (.int r8) ∧ ((r8 = 0 → ∀ v10 : Int64, v10 = (((31)) * v6) + (Int32.toInt64 0) → Sp E MX11_changed [.ref 123, .int x3, .int ((-1)), .int ((-1)), .int 0] m7 (fun v m11 => ∃ r12 : Int32, v = some (.int r12) ∧ ∀ v13 : Int64, v13 = (((31)) * v10) + (Int32.toInt64 r12) → Sp E MX11_changed [.ref 123, .int x3, .int ((-1)), .int ((-1)), .int 1] m11 (fun v m14 => ∃ r15 : Int32, v = some (.int r15) ∧ ∀ v16 : Int64, v16 = (((31)) * v13) + (Int32.toInt64 r15) → ∀ v17 : Int32, v17 = x3 + 1 → Ex E MX11_digest Q 71 [(0, .ref 123), (1, .long v16), (3, .int v17)] [] m14))) ∧ (¬ r8 = 0 → ∀ v18 : Int64, v18 = (((31)) * v6) + (Int32.toInt64 1) → Sp E MX11_changed [.ref 123, .int x3, .int ((-1)), .int ((-1)), .int 0] m7 (fun v m19 => ∃ r20 : Int32, v = some (.int r20) ∧ ∀ v21 : Int64, v21 = (((31)) * v18) + (Int32.toInt64 r20) → Sp E MX11_changed [.ref 123, .int x3, .int ((-1)), .int ((-1)), .int 1] m19 (fun v m22 => ∃ r23 : Int32, v = some (.int r23) ∧ ∀ v24 : Int64, v24 = (((31)) * v21) + (Int32.toInt64 r23) → ∀ v25 : Int32, v25 = x3 + 1 → Ex E MX11_digest Q 71 [(0, .ref 123), (1, .long v24), (3, .int v25)] [] m22)))))) ∧ (¬ (μ.1 132 x3.toNatClampNeg) = 0 → ∀ v26 : Int64, v26 = (((31)) * v4) + (Int32.toInt64 1) → Sp E MX11_isShut [.ref 123, .int x3] μ (fun v m27 => ∃ r28 : Int32, v = some (.int r28) ∧ ((r28 = 0 → ∀ v30 : Int64, v30 = (((31)) * v26) + (Int32.toInt64 0) → Sp E MX11_changed [.ref 123, .int x3, .int ((-1)), .int ((-1)), .int 0] m27 (fun v m31 => ∃ r32 : Int32, v = some (.int r32) ∧ ∀ v33 : Int64, v33 = (((31)) * v30) + (Int32.toInt64 r32) → Sp E MX11_changed [.ref 123, .int x3, .int ((-1)), .int ((-1)), .int 1] m31 (fun v m34 => ∃ r35 : Int32, v = some (.int r35) ∧ ∀ v36 : Int64, v36 = (((31)) * v33) + (Int32.toInt64 r35) → ∀ v37 : Int32, v37 = x3 + 1 → Ex E MX11_digest Q 71 [(0, .ref 123), (1, .long v36), (3, .int v37)] [] m34))) ∧ (¬ r28 = 0 → ∀ v38 : Int64, v38 = (((31)) * v26) + (Int32.toInt64 1) → Sp E MX11_changed [.ref 123, .int x3, .int ((-1)), .int ((-1)), .int 0] m27 (fun v m39 => ∃ r40 : Int32, v = some (.int r40) ∧ ∀ v41 : Int64, v41 = (((31)) * v38) + (Int32.toInt64 r40) → Sp E MX11_changed [.ref 123, .int x3, .int ((-1)), .int ((-1)), .int 1] m39 (fun v m42 => ∃ r43 : Int32, v = some (.int r43) ∧ ∀ v44 : Int64, v44 = (((31)) * v41) + (Int32.toInt64 r43) → ∀ v45 : Int32, v45 = x3 + 1 → Ex E MX11_digest Q 71 [(0, .ref 123), (1, .long v44), (3, .int v45)] [] m42))))))))))) : Ex E MX11_digest Q 71 [(0, .ref 123), (1, .long x1), (3, .int x3)] [] μ := by
  refine x_iload_n 2 rfl rfl (dk zX11_digest 44 rfl) ?_
  refine x_aload_n 0 rfl rfl (dk zX11_digest 45 rfl) ?_
  refine gf11_8 rfl k123 (dk zX11_digest 46 rfl) ?_
  refine x_icmp_ge (tgt := 188) (by decide) (dk zX11_digest 47 rfl) (fun c1 => ?_) (fun c1 => ?_)
  · have hc1t := h.1 c1
    refine x_iconst (v := 1) (by decide) (dk zX11_digest 121 rfl) ?_
    refine x_istore_n (k := 3) (l' := [(0, .ref 123), (1, .long x1), (3, .int 1)]) [1, 2, 0] rfl rfl (by decide) (dk zX11_digest 122 rfl) ?_
    exact hc1t
  · have hc1f := h.2 c1
    refine x_ldc2 (v := 31) rfl wkRX11_348 (dk zX11_digest 48 rfl) ?_
    refine x_lload_n 1 rfl rfl (dk zX11_digest 49 rfl) ?_
    refine x_lmul (dk zX11_digest 50 rfl) ?_
    refine x_aload_n 0 rfl rfl (dk zX11_digest 51 rfl) ?_
    refine gf11_9 (r := 130) rfl k123 r123_9 (dk zX11_digest 52 rfl) ?_
    refine x_iload_n 2 rfl rfl (dk zX11_digest 53 rfl) ?_
    have b2 := hc1f.1
    have hb2 := hc1f.2
    refine y_iald (j := x3.toNatClampNeg) k130 l130 b2 rfl (dk zX11_digest 54 rfl) ?_
    refine x_i2l (dk zX11_digest 55 rfl) ?_
    refine x_ladd (dk zX11_digest 56 rfl) ?_
    refine x_topl (fun v3 ev3 => ?_)
    have hv3 := hb2 v3 ev3
    refine x_lstore_n (k := 1) (l' := [(0, .ref 123), (1, .long v3), (3, .int x3)]) [1, 0, 2] rfl rfl (by decide) (dk zX11_digest 57 rfl) ?_
    refine x_ldc2 (v := 31) rfl wkRX11_348 (dk zX11_digest 58 rfl) ?_
    refine x_lload_n 1 rfl rfl (dk zX11_digest 59 rfl) ?_
    refine x_lmul (dk zX11_digest 60 rfl) ?_
    refine x_aload_n 0 rfl rfl (dk zX11_digest 61 rfl) ?_
    refine gf11_10 (r := 131) rfl k123 r123_10 (dk zX11_digest 62 rfl) ?_
    refine x_iload_n 2 rfl rfl (dk zX11_digest 63 rfl) ?_
    refine y_iald (j := x3.toNatClampNeg) k131 l131 b2 rfl (dk zX11_digest 64 rfl) ?_
    refine x_i2l (dk zX11_digest 65 rfl) ?_
    refine x_ladd (dk zX11_digest 66 rfl) ?_
    refine x_topl (fun v4 ev4 => ?_)
    have hv4 := hv3 v4 ev4
    refine x_lstore_n (k := 1) (l' := [(0, .ref 123), (1, .long v4), (3, .int x3)]) [1, 0, 2] rfl rfl (by decide) (dk zX11_digest 67 rfl) ?_
    refine x_ldc2 (v := 31) rfl wkRX11_348 (dk zX11_digest 68 rfl) ?_
    refine x_lload_n 1 rfl rfl (dk zX11_digest 69 rfl) ?_
    refine x_lmul (dk zX11_digest 70 rfl) ?_
    refine x_aload_n 0 rfl rfl (dk zX11_digest 71 rfl) ?_
    refine gf11_11 (r := 132) rfl k123 r123_11 (dk zX11_digest 72 rfl) ?_
    refine x_iload_n 2 rfl rfl (dk zX11_digest 73 rfl) ?_
    refine y_zald (j := x3.toNatClampNeg) k132 l132 b2 rfl (dk zX11_digest 74 rfl) ?_
    refine x_if_eq (tgt := 125) (by decide) (dk zX11_digest 75 rfl) (fun c5 => ?_) (fun c5 => ?_)
    · have hc5t := hv4.1 c5
      refine x_iconst (v := 0) (by decide) (dk zX11_digest 78 rfl) ?_
      refine x_i2l (dk zX11_digest 79 rfl) ?_
      refine x_ladd (dk zX11_digest 80 rfl) ?_
      refine x_topl (fun v6 ev6 => ?_)
      have hv6 := hc5t v6 ev6
      refine x_lstore_n (k := 1) (l' := [(0, .ref 123), (1, .long v6), (3, .int x3)]) [1, 0, 2] rfl rfl (by decide) (dk zX11_digest 81 rfl) ?_
      refine x_ldc2 (v := 31) rfl wkRX11_348 (dk zX11_digest 82 rfl) ?_
      refine x_lload_n 1 rfl rfl (dk zX11_digest 83 rfl) ?_
      refine x_lmul (dk zX11_digest 84 rfl) ?_
      refine x_aload_n 0 rfl rfl (dk zX11_digest 85 rfl) ?_
      refine x_iload_n 2 rfl rfl (dk zX11_digest 86 rfl) ?_
      refine x_callV (as := [.int x3]) (o := 123) (ci := 11) (st := [.long (((31)) * v6)]) rfl okRX11_172 npX11_isShut ⟨Nat.le_of_ble_eq_true rfl, Nat.le_of_ble_eq_true rfl⟩ k123 (by decide) rfl (Nat.le_of_ble_eq_true rfl) (dk zX11_digest 87 rfl) ?_
      refine hv6.mono ?_
      rintro _ m7 ⟨r8, rfl, hm7⟩
      show Ex E MX11_digest Q 139 [(0, .ref 123), (1, .long v6), (3, .int x3)] [.int r8, .long (((31)) * v6)] m7
      refine x_if_eq (tgt := 146) (by decide) (dk zX11_digest 88 rfl) (fun c9 => ?_) (fun c9 => ?_)
      · have hc9t := hm7.1 c9
        refine x_iconst (v := 0) (by decide) (dk zX11_digest 91 rfl) ?_
        refine x_i2l (dk zX11_digest 92 rfl) ?_
        refine x_ladd (dk zX11_digest 93 rfl) ?_
        refine x_topl (fun v10 ev10 => ?_)
        have hv10 := hc9t v10 ev10
        refine x_lstore_n (k := 1) (l' := [(0, .ref 123), (1, .long v10), (3, .int x3)]) [1, 0, 2] rfl rfl (by decide) (dk zX11_digest 94 rfl) ?_
        refine x_ldc2 (v := 31) rfl wkRX11_348 (dk zX11_digest 95 rfl) ?_
        refine x_lload_n 1 rfl rfl (dk zX11_digest 96 rfl) ?_
        refine x_lmul (dk zX11_digest 97 rfl) ?_
        refine x_aload_n 0 rfl rfl (dk zX11_digest 98 rfl) ?_
        refine x_iload_n 2 rfl rfl (dk zX11_digest 99 rfl) ?_
        refine x_iconst (v := -1) (by decide) (dk zX11_digest 100 rfl) ?_
        refine x_iconst (v := -1) (by decide) (dk zX11_digest 101 rfl) ?_
        refine x_iconst (v := 0) (by decide) (dk zX11_digest 102 rfl) ?_
        refine x_callV (as := [.int x3, .int ((-1)), .int ((-1)), .int 0]) (o := 123) (ci := 11) (st := [.long (((31)) * v10)]) rfl okRX11_343 npX11_changed ⟨Nat.le_of_ble_eq_true rfl, Nat.le_of_ble_eq_true rfl⟩ k123 (by decide) rfl (Nat.le_of_ble_eq_true rfl) (dk zX11_digest 103 rfl) ?_
        refine hv10.mono ?_
        rintro _ m11 ⟨r12, rfl, hm11⟩
        show Ex E MX11_digest Q 163 [(0, .ref 123), (1, .long v10), (3, .int x3)] [.int r12, .long (((31)) * v10)] m11
        refine x_i2l (dk zX11_digest 104 rfl) ?_
        refine x_ladd (dk zX11_digest 105 rfl) ?_
        refine x_topl (fun v13 ev13 => ?_)
        have hv13 := hm11 v13 ev13
        refine x_lstore_n (k := 1) (l' := [(0, .ref 123), (1, .long v13), (3, .int x3)]) [1, 0, 2] rfl rfl (by decide) (dk zX11_digest 106 rfl) ?_
        refine x_ldc2 (v := 31) rfl wkRX11_348 (dk zX11_digest 107 rfl) ?_
        refine x_lload_n 1 rfl rfl (dk zX11_digest 108 rfl) ?_
        refine x_lmul (dk zX11_digest 109 rfl) ?_
        refine x_aload_n 0 rfl rfl (dk zX11_digest 110 rfl) ?_
        refine x_iload_n 2 rfl rfl (dk zX11_digest 111 rfl) ?_
        refine x_iconst (v := -1) (by decide) (dk zX11_digest 112 rfl) ?_
        refine x_iconst (v := -1) (by decide) (dk zX11_digest 113 rfl) ?_
        refine x_iconst (v := 1) (by decide) (dk zX11_digest 114 rfl) ?_
        refine x_callV (as := [.int x3, .int ((-1)), .int ((-1)), .int 1]) (o := 123) (ci := 11) (st := [.long (((31)) * v13)]) rfl okRX11_343 npX11_changed ⟨Nat.le_of_ble_eq_true rfl, Nat.le_of_ble_eq_true rfl⟩ k123 (by decide) rfl (Nat.le_of_ble_eq_true rfl) (dk zX11_digest 115 rfl) ?_
        refine hv13.mono ?_
        rintro _ m14 ⟨r15, rfl, hm14⟩
        show Ex E MX11_digest Q 179 [(0, .ref 123), (1, .long v13), (3, .int x3)] [.int r15, .long (((31)) * v13)] m14
        refine x_i2l (dk zX11_digest 116 rfl) ?_
        refine x_ladd (dk zX11_digest 117 rfl) ?_
        refine x_topl (fun v16 ev16 => ?_)
        have hv16 := hm14 v16 ev16
        refine x_lstore_n (k := 1) (l' := [(0, .ref 123), (1, .long v16), (3, .int x3)]) [1, 0, 2] rfl rfl (by decide) (dk zX11_digest 118 rfl) ?_
        obtain ⟨v17, ev17⟩ : ∃ y : Int32, y = x3 + 1 := ⟨_, rfl⟩
        have hv17 := hv16 v17 ev17
        refine x_iinc (v := v17) (l' := [(0, .ref 123), (1, .long v16), (3, .int v17)]) 2 rfl (by rw [ev17]; rfl) [1, 2, 0] rfl (by decide) (dk zX11_digest 119 rfl) ?_
        refine x_goto (tgt := 71) (by decide) (dk zX11_digest 120 rfl) ?_
        exact hv17
      · have hc9f := hm7.2 c9
        refine x_iconst (v := 1) (by decide) (dk zX11_digest 89 rfl) ?_
        refine x_goto (tgt := 147) (by decide) (dk zX11_digest 90 rfl) ?_
        refine x_i2l (dk zX11_digest 92 rfl) ?_
        refine x_ladd (dk zX11_digest 93 rfl) ?_
        refine x_topl (fun v18 ev18 => ?_)
        have hv18 := hc9f v18 ev18
        refine x_lstore_n (k := 1) (l' := [(0, .ref 123), (1, .long v18), (3, .int x3)]) [1, 0, 2] rfl rfl (by decide) (dk zX11_digest 94 rfl) ?_
        refine x_ldc2 (v := 31) rfl wkRX11_348 (dk zX11_digest 95 rfl) ?_
        refine x_lload_n 1 rfl rfl (dk zX11_digest 96 rfl) ?_
        refine x_lmul (dk zX11_digest 97 rfl) ?_
        refine x_aload_n 0 rfl rfl (dk zX11_digest 98 rfl) ?_
        refine x_iload_n 2 rfl rfl (dk zX11_digest 99 rfl) ?_
        refine x_iconst (v := -1) (by decide) (dk zX11_digest 100 rfl) ?_
        refine x_iconst (v := -1) (by decide) (dk zX11_digest 101 rfl) ?_
        refine x_iconst (v := 0) (by decide) (dk zX11_digest 102 rfl) ?_
        refine x_callV (as := [.int x3, .int ((-1)), .int ((-1)), .int 0]) (o := 123) (ci := 11) (st := [.long (((31)) * v18)]) rfl okRX11_343 npX11_changed ⟨Nat.le_of_ble_eq_true rfl, Nat.le_of_ble_eq_true rfl⟩ k123 (by decide) rfl (Nat.le_of_ble_eq_true rfl) (dk zX11_digest 103 rfl) ?_
        refine hv18.mono ?_
        rintro _ m19 ⟨r20, rfl, hm19⟩
        show Ex E MX11_digest Q 163 [(0, .ref 123), (1, .long v18), (3, .int x3)] [.int r20, .long (((31)) * v18)] m19
        refine x_i2l (dk zX11_digest 104 rfl) ?_
        refine x_ladd (dk zX11_digest 105 rfl) ?_
        refine x_topl (fun v21 ev21 => ?_)
        have hv21 := hm19 v21 ev21
        refine x_lstore_n (k := 1) (l' := [(0, .ref 123), (1, .long v21), (3, .int x3)]) [1, 0, 2] rfl rfl (by decide) (dk zX11_digest 106 rfl) ?_
        refine x_ldc2 (v := 31) rfl wkRX11_348 (dk zX11_digest 107 rfl) ?_
        refine x_lload_n 1 rfl rfl (dk zX11_digest 108 rfl) ?_
        refine x_lmul (dk zX11_digest 109 rfl) ?_
        refine x_aload_n 0 rfl rfl (dk zX11_digest 110 rfl) ?_
        refine x_iload_n 2 rfl rfl (dk zX11_digest 111 rfl) ?_
        refine x_iconst (v := -1) (by decide) (dk zX11_digest 112 rfl) ?_
        refine x_iconst (v := -1) (by decide) (dk zX11_digest 113 rfl) ?_
        refine x_iconst (v := 1) (by decide) (dk zX11_digest 114 rfl) ?_
        refine x_callV (as := [.int x3, .int ((-1)), .int ((-1)), .int 1]) (o := 123) (ci := 11) (st := [.long (((31)) * v21)]) rfl okRX11_343 npX11_changed ⟨Nat.le_of_ble_eq_true rfl, Nat.le_of_ble_eq_true rfl⟩ k123 (by decide) rfl (Nat.le_of_ble_eq_true rfl) (dk zX11_digest 115 rfl) ?_
        refine hv21.mono ?_
        rintro _ m22 ⟨r23, rfl, hm22⟩
        show Ex E MX11_digest Q 179 [(0, .ref 123), (1, .long v21), (3, .int x3)] [.int r23, .long (((31)) * v21)] m22
        refine x_i2l (dk zX11_digest 116 rfl) ?_
        refine x_ladd (dk zX11_digest 117 rfl) ?_
        refine x_topl (fun v24 ev24 => ?_)
        have hv24 := hm22 v24 ev24
        refine x_lstore_n (k := 1) (l' := [(0, .ref 123), (1, .long v24), (3, .int x3)]) [1, 0, 2] rfl rfl (by decide) (dk zX11_digest 118 rfl) ?_
        obtain ⟨v25, ev25⟩ : ∃ y : Int32, y = x3 + 1 := ⟨_, rfl⟩
        have hv25 := hv24 v25 ev25
        refine x_iinc (v := v25) (l' := [(0, .ref 123), (1, .long v24), (3, .int v25)]) 2 rfl (by rw [ev25]; rfl) [1, 2, 0] rfl (by decide) (dk zX11_digest 119 rfl) ?_
        refine x_goto (tgt := 71) (by decide) (dk zX11_digest 120 rfl) ?_
        exact hv25
    · have hc5f := hv4.2 c5
      refine x_iconst (v := 1) (by decide) (dk zX11_digest 76 rfl) ?_
      refine x_goto (tgt := 126) (by decide) (dk zX11_digest 77 rfl) ?_
      refine x_i2l (dk zX11_digest 79 rfl) ?_
      refine x_ladd (dk zX11_digest 80 rfl) ?_
      refine x_topl (fun v26 ev26 => ?_)
      have hv26 := hc5f v26 ev26
      refine x_lstore_n (k := 1) (l' := [(0, .ref 123), (1, .long v26), (3, .int x3)]) [1, 0, 2] rfl rfl (by decide) (dk zX11_digest 81 rfl) ?_
      refine x_ldc2 (v := 31) rfl wkRX11_348 (dk zX11_digest 82 rfl) ?_
      refine x_lload_n 1 rfl rfl (dk zX11_digest 83 rfl) ?_
      refine x_lmul (dk zX11_digest 84 rfl) ?_
      refine x_aload_n 0 rfl rfl (dk zX11_digest 85 rfl) ?_
      refine x_iload_n 2 rfl rfl (dk zX11_digest 86 rfl) ?_
      refine x_callV (as := [.int x3]) (o := 123) (ci := 11) (st := [.long (((31)) * v26)]) rfl okRX11_172 npX11_isShut ⟨Nat.le_of_ble_eq_true rfl, Nat.le_of_ble_eq_true rfl⟩ k123 (by decide) rfl (Nat.le_of_ble_eq_true rfl) (dk zX11_digest 87 rfl) ?_
      refine hv26.mono ?_
      rintro _ m27 ⟨r28, rfl, hm27⟩
      show Ex E MX11_digest Q 139 [(0, .ref 123), (1, .long v26), (3, .int x3)] [.int r28, .long (((31)) * v26)] m27
      refine x_if_eq (tgt := 146) (by decide) (dk zX11_digest 88 rfl) (fun c29 => ?_) (fun c29 => ?_)
      · have hc29t := hm27.1 c29
        refine x_iconst (v := 0) (by decide) (dk zX11_digest 91 rfl) ?_
        refine x_i2l (dk zX11_digest 92 rfl) ?_
        refine x_ladd (dk zX11_digest 93 rfl) ?_
        refine x_topl (fun v30 ev30 => ?_)
        have hv30 := hc29t v30 ev30
        refine x_lstore_n (k := 1) (l' := [(0, .ref 123), (1, .long v30), (3, .int x3)]) [1, 0, 2] rfl rfl (by decide) (dk zX11_digest 94 rfl) ?_
        refine x_ldc2 (v := 31) rfl wkRX11_348 (dk zX11_digest 95 rfl) ?_
        refine x_lload_n 1 rfl rfl (dk zX11_digest 96 rfl) ?_
        refine x_lmul (dk zX11_digest 97 rfl) ?_
        refine x_aload_n 0 rfl rfl (dk zX11_digest 98 rfl) ?_
        refine x_iload_n 2 rfl rfl (dk zX11_digest 99 rfl) ?_
        refine x_iconst (v := -1) (by decide) (dk zX11_digest 100 rfl) ?_
        refine x_iconst (v := -1) (by decide) (dk zX11_digest 101 rfl) ?_
        refine x_iconst (v := 0) (by decide) (dk zX11_digest 102 rfl) ?_
        refine x_callV (as := [.int x3, .int ((-1)), .int ((-1)), .int 0]) (o := 123) (ci := 11) (st := [.long (((31)) * v30)]) rfl okRX11_343 npX11_changed ⟨Nat.le_of_ble_eq_true rfl, Nat.le_of_ble_eq_true rfl⟩ k123 (by decide) rfl (Nat.le_of_ble_eq_true rfl) (dk zX11_digest 103 rfl) ?_
        refine hv30.mono ?_
        rintro _ m31 ⟨r32, rfl, hm31⟩
        show Ex E MX11_digest Q 163 [(0, .ref 123), (1, .long v30), (3, .int x3)] [.int r32, .long (((31)) * v30)] m31
        refine x_i2l (dk zX11_digest 104 rfl) ?_
        refine x_ladd (dk zX11_digest 105 rfl) ?_
        refine x_topl (fun v33 ev33 => ?_)
        have hv33 := hm31 v33 ev33
        refine x_lstore_n (k := 1) (l' := [(0, .ref 123), (1, .long v33), (3, .int x3)]) [1, 0, 2] rfl rfl (by decide) (dk zX11_digest 106 rfl) ?_
        refine x_ldc2 (v := 31) rfl wkRX11_348 (dk zX11_digest 107 rfl) ?_
        refine x_lload_n 1 rfl rfl (dk zX11_digest 108 rfl) ?_
        refine x_lmul (dk zX11_digest 109 rfl) ?_
        refine x_aload_n 0 rfl rfl (dk zX11_digest 110 rfl) ?_
        refine x_iload_n 2 rfl rfl (dk zX11_digest 111 rfl) ?_
        refine x_iconst (v := -1) (by decide) (dk zX11_digest 112 rfl) ?_
        refine x_iconst (v := -1) (by decide) (dk zX11_digest 113 rfl) ?_
        refine x_iconst (v := 1) (by decide) (dk zX11_digest 114 rfl) ?_
        refine x_callV (as := [.int x3, .int ((-1)), .int ((-1)), .int 1]) (o := 123) (ci := 11) (st := [.long (((31)) * v33)]) rfl okRX11_343 npX11_changed ⟨Nat.le_of_ble_eq_true rfl, Nat.le_of_ble_eq_true rfl⟩ k123 (by decide) rfl (Nat.le_of_ble_eq_true rfl) (dk zX11_digest 115 rfl) ?_
        refine hv33.mono ?_
        rintro _ m34 ⟨r35, rfl, hm34⟩
        show Ex E MX11_digest Q 179 [(0, .ref 123), (1, .long v33), (3, .int x3)] [.int r35, .long (((31)) * v33)] m34
        refine x_i2l (dk zX11_digest 116 rfl) ?_
        refine x_ladd (dk zX11_digest 117 rfl) ?_
        refine x_topl (fun v36 ev36 => ?_)
        have hv36 := hm34 v36 ev36
        refine x_lstore_n (k := 1) (l' := [(0, .ref 123), (1, .long v36), (3, .int x3)]) [1, 0, 2] rfl rfl (by decide) (dk zX11_digest 118 rfl) ?_
        obtain ⟨v37, ev37⟩ : ∃ y : Int32, y = x3 + 1 := ⟨_, rfl⟩
        have hv37 := hv36 v37 ev37
        refine x_iinc (v := v37) (l' := [(0, .ref 123), (1, .long v36), (3, .int v37)]) 2 rfl (by rw [ev37]; rfl) [1, 2, 0] rfl (by decide) (dk zX11_digest 119 rfl) ?_
        refine x_goto (tgt := 71) (by decide) (dk zX11_digest 120 rfl) ?_
        exact hv37
      · have hc29f := hm27.2 c29
        refine x_iconst (v := 1) (by decide) (dk zX11_digest 89 rfl) ?_
        refine x_goto (tgt := 147) (by decide) (dk zX11_digest 90 rfl) ?_
        refine x_i2l (dk zX11_digest 92 rfl) ?_
        refine x_ladd (dk zX11_digest 93 rfl) ?_
        refine x_topl (fun v38 ev38 => ?_)
        have hv38 := hc29f v38 ev38
        refine x_lstore_n (k := 1) (l' := [(0, .ref 123), (1, .long v38), (3, .int x3)]) [1, 0, 2] rfl rfl (by decide) (dk zX11_digest 94 rfl) ?_
        refine x_ldc2 (v := 31) rfl wkRX11_348 (dk zX11_digest 95 rfl) ?_
        refine x_lload_n 1 rfl rfl (dk zX11_digest 96 rfl) ?_
        refine x_lmul (dk zX11_digest 97 rfl) ?_
        refine x_aload_n 0 rfl rfl (dk zX11_digest 98 rfl) ?_
        refine x_iload_n 2 rfl rfl (dk zX11_digest 99 rfl) ?_
        refine x_iconst (v := -1) (by decide) (dk zX11_digest 100 rfl) ?_
        refine x_iconst (v := -1) (by decide) (dk zX11_digest 101 rfl) ?_
        refine x_iconst (v := 0) (by decide) (dk zX11_digest 102 rfl) ?_
        refine x_callV (as := [.int x3, .int ((-1)), .int ((-1)), .int 0]) (o := 123) (ci := 11) (st := [.long (((31)) * v38)]) rfl okRX11_343 npX11_changed ⟨Nat.le_of_ble_eq_true rfl, Nat.le_of_ble_eq_true rfl⟩ k123 (by decide) rfl (Nat.le_of_ble_eq_true rfl) (dk zX11_digest 103 rfl) ?_
        refine hv38.mono ?_
        rintro _ m39 ⟨r40, rfl, hm39⟩
        show Ex E MX11_digest Q 163 [(0, .ref 123), (1, .long v38), (3, .int x3)] [.int r40, .long (((31)) * v38)] m39
        refine x_i2l (dk zX11_digest 104 rfl) ?_
        refine x_ladd (dk zX11_digest 105 rfl) ?_
        refine x_topl (fun v41 ev41 => ?_)
        have hv41 := hm39 v41 ev41
        refine x_lstore_n (k := 1) (l' := [(0, .ref 123), (1, .long v41), (3, .int x3)]) [1, 0, 2] rfl rfl (by decide) (dk zX11_digest 106 rfl) ?_
        refine x_ldc2 (v := 31) rfl wkRX11_348 (dk zX11_digest 107 rfl) ?_
        refine x_lload_n 1 rfl rfl (dk zX11_digest 108 rfl) ?_
        refine x_lmul (dk zX11_digest 109 rfl) ?_
        refine x_aload_n 0 rfl rfl (dk zX11_digest 110 rfl) ?_
        refine x_iload_n 2 rfl rfl (dk zX11_digest 111 rfl) ?_
        refine x_iconst (v := -1) (by decide) (dk zX11_digest 112 rfl) ?_
        refine x_iconst (v := -1) (by decide) (dk zX11_digest 113 rfl) ?_
        refine x_iconst (v := 1) (by decide) (dk zX11_digest 114 rfl) ?_
        refine x_callV (as := [.int x3, .int ((-1)), .int ((-1)), .int 1]) (o := 123) (ci := 11) (st := [.long (((31)) * v41)]) rfl okRX11_343 npX11_changed ⟨Nat.le_of_ble_eq_true rfl, Nat.le_of_ble_eq_true rfl⟩ k123 (by decide) rfl (Nat.le_of_ble_eq_true rfl) (dk zX11_digest 115 rfl) ?_
        refine hv41.mono ?_
        rintro _ m42 ⟨r43, rfl, hm42⟩
        show Ex E MX11_digest Q 179 [(0, .ref 123), (1, .long v41), (3, .int x3)] [.int r43, .long (((31)) * v41)] m42
        refine x_i2l (dk zX11_digest 116 rfl) ?_
        refine x_ladd (dk zX11_digest 117 rfl) ?_
        refine x_topl (fun v44 ev44 => ?_)
        have hv44 := hm42 v44 ev44
        refine x_lstore_n (k := 1) (l' := [(0, .ref 123), (1, .long v44), (3, .int x3)]) [1, 0, 2] rfl rfl (by decide) (dk zX11_digest 118 rfl) ?_
        obtain ⟨v45, ev45⟩ : ∃ y : Int32, y = x3 + 1 := ⟨_, rfl⟩
        have hv45 := hv44 v45 ev45
        refine x_iinc (v := v45) (l' := [(0, .ref 123), (1, .long v44), (3, .int v45)]) 2 rfl (by rw [ev45]; rfl) [1, 2, 0] rfl (by decide) (dk zX11_digest 119 rfl) ?_
        refine x_goto (tgt := 71) (by decide) (dk zX11_digest 120 rfl) ?_
        exact hv45
set_option maxRecDepth 20000 in
set_option maxHeartbeats 2000000 in
theorem gX11_digest_190 {E : EV} {Q : Po} {μ : Mem} {x1 : Int64} {x3 : Int32} (h : ((4 ≤ x3 → Sp E MX11_sameOf [.ref 123, .int 1, .int 2] μ (fun v m2 => ∃ r3 : Int32, v = some (.int r3) ∧ ∀ v4 : Int64, v4 = (((31)) * x1) + (Int32.toInt64 r3) → Ex E MX11_digest Q 396 [(0, .ref 123), (1, .long v4), (3, .int 0)] [] m2)) ∧ (¬ 4 ≤ x3 → Sp E MX11_findPaper [.ref 123, .int 0, .int x3] μ (fun v m5 => v = none ∧ ∀ v6 : Int64, v6 = (((31)) * x1) + (Int32.toInt64 (m5.1 134 0)) → Ex E MX11_digest Q 218 [(0, .ref 123), (1, .long v6), (3, .int x3), (4, .int 0)] [] m5)))) : Ex E MX11_digest Q 190 [(0, .ref 123), (1, .long x1), (3, .int x3)] [] μ := by
  refine x_iload_n 2 rfl rfl (dk zX11_digest 123 rfl) ?_
  refine x_iconst (v := 4) (by decide) (dk zX11_digest 124 rfl) ?_
  refine x_icmp_ge (tgt := 380) (by decide) (dk zX11_digest 125 rfl) (fun c1 => ?_) (fun c1 => ?_)
  · have hc1t := h.1 c1
    refine x_ldc2 (v := 31) rfl wkRX11_348 (dk zX11_digest 244 rfl) ?_
    refine x_lload_n 1 rfl rfl (dk zX11_digest 245 rfl) ?_
    refine x_lmul (dk zX11_digest 246 rfl) ?_
    refine x_aload_n 0 rfl rfl (dk zX11_digest 247 rfl) ?_
    refine x_iconst (v := 1) (by decide) (dk zX11_digest 248 rfl) ?_
    refine x_iconst (v := 2) (by decide) (dk zX11_digest 249 rfl) ?_
    refine x_callV (as := [.int 1, .int 2]) (o := 123) (ci := 11) (st := [.long (((31)) * x1)]) rfl okRX11_217 npX11_sameOf ⟨Nat.le_of_ble_eq_true rfl, Nat.le_of_ble_eq_true rfl⟩ k123 (by decide) rfl (Nat.le_of_ble_eq_true rfl) (dk zX11_digest 250 rfl) ?_
    refine hc1t.mono ?_
    rintro _ m2 ⟨r3, rfl, hm2⟩
    show Ex E MX11_digest Q 391 [(0, .ref 123), (1, .long x1), (3, .int x3)] [.int r3, .long (((31)) * x1)] m2
    refine x_i2l (dk zX11_digest 251 rfl) ?_
    refine x_ladd (dk zX11_digest 252 rfl) ?_
    refine x_topl (fun v4 ev4 => ?_)
    have hv4 := hm2 v4 ev4
    refine x_lstore_n (k := 1) (l' := [(0, .ref 123), (1, .long v4), (3, .int x3)]) [1, 0, 2] rfl rfl (by decide) (dk zX11_digest 253 rfl) ?_
    refine x_iconst (v := 0) (by decide) (dk zX11_digest 254 rfl) ?_
    refine x_istore_n (k := 3) (l' := [(0, .ref 123), (1, .long v4), (3, .int 0)]) [1, 2, 0] rfl rfl (by decide) (dk zX11_digest 255 rfl) ?_
    exact hv4
  · have hc1f := h.2 c1
    refine x_aload_n 0 rfl rfl (dk zX11_digest 126 rfl) ?_
    refine x_iconst (v := 0) (by decide) (dk zX11_digest 127 rfl) ?_
    refine x_iload_n 2 rfl rfl (dk zX11_digest 128 rfl) ?_
    refine x_callV (as := [.int 0, .int x3]) (o := 123) (ci := 11) (st := []) rfl okRX11_196 npX11_findPaper ⟨Nat.le_of_ble_eq_true rfl, Nat.le_of_ble_eq_true rfl⟩ k123 (by decide) rfl (Nat.le_of_ble_eq_true rfl) (dk zX11_digest 129 rfl) ?_
    refine hc1f.mono ?_
    rintro _ m5 ⟨rfl, hm5⟩
    show Ex E MX11_digest Q 201 [(0, .ref 123), (1, .long x1), (3, .int x3)] [] m5
    refine x_ldc2 (v := 31) rfl wkRX11_348 (dk zX11_digest 130 rfl) ?_
    refine x_lload_n 1 rfl rfl (dk zX11_digest 131 rfl) ?_
    refine x_lmul (dk zX11_digest 132 rfl) ?_
    refine x_aload_n 0 rfl rfl (dk zX11_digest 133 rfl) ?_
    refine gf11_15 (r := 134) rfl k123 r123_15 (dk zX11_digest 134 rfl) ?_
    refine x_iconst (v := 0) (by decide) (dk zX11_digest 135 rfl) ?_
    refine y_iald (j := 0) k134 l134 (by unfold vp_in; decide) (by decide) (dk zX11_digest 136 rfl) ?_
    refine x_i2l (dk zX11_digest 137 rfl) ?_
    refine x_ladd (dk zX11_digest 138 rfl) ?_
    refine x_topl (fun v6 ev6 => ?_)
    have hv6 := hm5 v6 ev6
    refine x_lstore_n (k := 1) (l' := [(0, .ref 123), (1, .long v6), (3, .int x3)]) [1, 0, 2] rfl rfl (by decide) (dk zX11_digest 139 rfl) ?_
    refine x_iconst (v := 0) (by decide) (dk zX11_digest 140 rfl) ?_
    refine x_istoreG (l' := [(0, .ref 123), (1, .long v6), (3, .int x3), (4, .int 0)]) [1, 2, 3, 0] rfl (by decide) (dk zX11_digest 141 rfl) ?_
    exact hv6
set_option maxRecDepth 20000 in
set_option maxHeartbeats 2000000 in
theorem gX11_digest_396 {E : EV} {Q : Po} {μ : Mem} {x1 : Int64} {x3 : Int32} (h : ((8 ≤ x3 → Sp E MX11_slipsOf [.ref 123, .int 7] μ (fun v m2 => ∃ r3 : Int32, v = some (.int r3) ∧ ∀ v4 : Int64, v4 = (((31)) * x1) + (Int32.toInt64 r3) → Sp E MX11_fewestNow [.ref 123] m2 (fun v m5 => ∃ r6 : Int32, v = some (.int r6) ∧ Q (some (.long ((((31)) * v4) + (Int32.toInt64 r6)))) m5))) ∧ (¬ 8 ≤ x3 → Sp E MX11_cleanOf [.ref 123, .int x3] μ (fun v m7 => ∃ r8 : Int32, v = some (.int r8) ∧ ∀ v9 : Int64, v9 = (((31)) * x1) + (Int32.toInt64 r8) → Sp E MX11_farOf [.ref 123, .int 0, .int x3] m7 (fun v m10 => ∃ r11 : Int32, v = some (.int r11) ∧ ∀ v12 : Int64, v12 = (((31)) * v9) + (Int32.toInt64 r11) → Sp E MX11_errandsOf [.ref 123, .int 0, .int (1 <<< ((x3 : Int32) &&& 31)), .int 0] m10 (fun v m13 => ∃ r14 : Int32, v = some (.int r14) ∧ ∀ v15 : Int64, v15 = (((31)) * v12) + (Int32.toInt64 r14) → Sp E MX11_errandsOf [.ref 123, .int 0, .int (1 <<< ((x3 : Int32) &&& 31)), .int 1] m13 (fun v m16 => ∃ r17 : Int32, v = some (.int r17) ∧ ∀ v18 : Int64, v18 = (((31)) * v15) + (Int32.toInt64 r17) → ∀ v19 : Int32, v19 = x3 + 1 → Ex E MX11_digest Q 396 [(0, .ref 123), (1, .long v18), (3, .int v19)] [] m16))))))) : Ex E MX11_digest Q 396 [(0, .ref 123), (1, .long x1), (3, .int x3)] [] μ := by
  refine x_iload_n 2 rfl rfl (dk zX11_digest 256 rfl) ?_
  refine x_bipush (v := 8) (by decide) (dk zX11_digest 257 rfl) ?_
  refine x_icmp_ge (tgt := 469) (by decide) (dk zX11_digest 258 rfl) (fun c1 => ?_) (fun c1 => ?_)
  · have hc1t := h.1 c1
    refine x_ldc2 (v := 31) rfl wkRX11_348 (dk zX11_digest 306 rfl) ?_
    refine x_lload_n 1 rfl rfl (dk zX11_digest 307 rfl) ?_
    refine x_lmul (dk zX11_digest 308 rfl) ?_
    refine x_aload_n 0 rfl rfl (dk zX11_digest 309 rfl) ?_
    refine x_bipush (v := 7) (by decide) (dk zX11_digest 310 rfl) ?_
    refine x_callV (as := [.int 7]) (o := 123) (ci := 11) (st := [.long (((31)) * x1)]) rfl okRX11_324 npX11_slipsOf ⟨Nat.le_of_ble_eq_true rfl, Nat.le_of_ble_eq_true rfl⟩ k123 (by decide) rfl (Nat.le_of_ble_eq_true rfl) (dk zX11_digest 311 rfl) ?_
    refine hc1t.mono ?_
    rintro _ m2 ⟨r3, rfl, hm2⟩
    show Ex E MX11_digest Q 480 [(0, .ref 123), (1, .long x1), (3, .int x3)] [.int r3, .long (((31)) * x1)] m2
    refine x_i2l (dk zX11_digest 312 rfl) ?_
    refine x_ladd (dk zX11_digest 313 rfl) ?_
    refine x_topl (fun v4 ev4 => ?_)
    have hv4 := hm2 v4 ev4
    refine x_lstore_n (k := 1) (l' := [(0, .ref 123), (1, .long v4), (3, .int x3)]) [1, 0, 2] rfl rfl (by decide) (dk zX11_digest 314 rfl) ?_
    refine x_ldc2 (v := 31) rfl wkRX11_348 (dk zX11_digest 315 rfl) ?_
    refine x_lload_n 1 rfl rfl (dk zX11_digest 316 rfl) ?_
    refine x_lmul (dk zX11_digest 317 rfl) ?_
    refine x_aload_n 0 rfl rfl (dk zX11_digest 318 rfl) ?_
    refine x_callV (as := []) (o := 123) (ci := 11) (st := [.long (((31)) * v4)]) rfl okRX11_330 npX11_fewestNow ⟨Nat.le_of_ble_eq_true rfl, Nat.le_of_ble_eq_true rfl⟩ k123 (by decide) rfl (Nat.le_of_ble_eq_true rfl) (dk zX11_digest 319 rfl) ?_
    refine hv4.mono ?_
    rintro _ m5 ⟨r6, rfl, hm5⟩
    show Ex E MX11_digest Q 492 [(0, .ref 123), (1, .long v4), (3, .int x3)] [.int r6, .long (((31)) * v4)] m5
    refine x_i2l (dk zX11_digest 320 rfl) ?_
    refine x_ladd (dk zX11_digest 321 rfl) ?_
    exact x_lret rfl (dk zX11_digest 322 rfl) hm5
  · have hc1f := h.2 c1
    refine x_ldc2 (v := 31) rfl wkRX11_348 (dk zX11_digest 259 rfl) ?_
    refine x_lload_n 1 rfl rfl (dk zX11_digest 260 rfl) ?_
    refine x_lmul (dk zX11_digest 261 rfl) ?_
    refine x_aload_n 0 rfl rfl (dk zX11_digest 262 rfl) ?_
    refine x_iload_n 2 rfl rfl (dk zX11_digest 263 rfl) ?_
    refine x_callV (as := [.int x3]) (o := 123) (ci := 11) (st := [.long (((31)) * x1)]) rfl okRX11_280 npX11_cleanOf ⟨Nat.le_of_ble_eq_true rfl, Nat.le_of_ble_eq_true rfl⟩ k123 (by decide) rfl (Nat.le_of_ble_eq_true rfl) (dk zX11_digest 264 rfl) ?_
    refine hc1f.mono ?_
    rintro _ m7 ⟨r8, rfl, hm7⟩
    show Ex E MX11_digest Q 412 [(0, .ref 123), (1, .long x1), (3, .int x3)] [.int r8, .long (((31)) * x1)] m7
    refine x_i2l (dk zX11_digest 265 rfl) ?_
    refine x_ladd (dk zX11_digest 266 rfl) ?_
    refine x_topl (fun v9 ev9 => ?_)
    have hv9 := hm7 v9 ev9
    refine x_lstore_n (k := 1) (l' := [(0, .ref 123), (1, .long v9), (3, .int x3)]) [1, 0, 2] rfl rfl (by decide) (dk zX11_digest 267 rfl) ?_
    refine x_ldc2 (v := 31) rfl wkRX11_348 (dk zX11_digest 268 rfl) ?_
    refine x_lload_n 1 rfl rfl (dk zX11_digest 269 rfl) ?_
    refine x_lmul (dk zX11_digest 270 rfl) ?_
    refine x_aload_n 0 rfl rfl (dk zX11_digest 271 rfl) ?_
    refine x_iconst (v := 0) (by decide) (dk zX11_digest 272 rfl) ?_
    refine x_iload_n 2 rfl rfl (dk zX11_digest 273 rfl) ?_
    refine x_callV (as := [.int 0, .int x3]) (o := 123) (ci := 11) (st := [.long (((31)) * v9)]) rfl okRX11_340 npX11_farOf ⟨Nat.le_of_ble_eq_true rfl, Nat.le_of_ble_eq_true rfl⟩ k123 (by decide) rfl (Nat.le_of_ble_eq_true rfl) (dk zX11_digest 274 rfl) ?_
    refine hv9.mono ?_
    rintro _ m10 ⟨r11, rfl, hm10⟩
    show Ex E MX11_digest Q 426 [(0, .ref 123), (1, .long v9), (3, .int x3)] [.int r11, .long (((31)) * v9)] m10
    refine x_i2l (dk zX11_digest 275 rfl) ?_
    refine x_ladd (dk zX11_digest 276 rfl) ?_
    refine x_topl (fun v12 ev12 => ?_)
    have hv12 := hm10 v12 ev12
    refine x_lstore_n (k := 1) (l' := [(0, .ref 123), (1, .long v12), (3, .int x3)]) [1, 0, 2] rfl rfl (by decide) (dk zX11_digest 277 rfl) ?_
    refine x_ldc2 (v := 31) rfl wkRX11_348 (dk zX11_digest 278 rfl) ?_
    refine x_lload_n 1 rfl rfl (dk zX11_digest 279 rfl) ?_
    refine x_lmul (dk zX11_digest 280 rfl) ?_
    refine x_aload_n 0 rfl rfl (dk zX11_digest 281 rfl) ?_
    refine x_iconst (v := 0) (by decide) (dk zX11_digest 282 rfl) ?_
    refine x_iconst (v := 1) (by decide) (dk zX11_digest 283 rfl) ?_
    refine x_iload_n 2 rfl rfl (dk zX11_digest 284 rfl) ?_
    refine x_ishl (dk zX11_digest 285 rfl) ?_
    refine x_iconst (v := 0) (by decide) (dk zX11_digest 286 rfl) ?_
    refine x_callV (as := [.int 0, .int (1 <<< ((x3 : Int32) &&& 31)), .int 0]) (o := 123) (ci := 11) (st := [.long (((31)) * v12)]) rfl okRX11_277 npX11_errandsOf ⟨Nat.le_of_ble_eq_true rfl, Nat.le_of_ble_eq_true rfl⟩ k123 (by decide) rfl (Nat.le_of_ble_eq_true rfl) (dk zX11_digest 287 rfl) ?_
    refine hv12.mono ?_
    rintro _ m13 ⟨r14, rfl, hm13⟩
    show Ex E MX11_digest Q 443 [(0, .ref 123), (1, .long v12), (3, .int x3)] [.int r14, .long (((31)) * v12)] m13
    refine x_i2l (dk zX11_digest 288 rfl) ?_
    refine x_ladd (dk zX11_digest 289 rfl) ?_
    refine x_topl (fun v15 ev15 => ?_)
    have hv15 := hm13 v15 ev15
    refine x_lstore_n (k := 1) (l' := [(0, .ref 123), (1, .long v15), (3, .int x3)]) [1, 0, 2] rfl rfl (by decide) (dk zX11_digest 290 rfl) ?_
    refine x_ldc2 (v := 31) rfl wkRX11_348 (dk zX11_digest 291 rfl) ?_
    refine x_lload_n 1 rfl rfl (dk zX11_digest 292 rfl) ?_
    refine x_lmul (dk zX11_digest 293 rfl) ?_
    refine x_aload_n 0 rfl rfl (dk zX11_digest 294 rfl) ?_
    refine x_iconst (v := 0) (by decide) (dk zX11_digest 295 rfl) ?_
    refine x_iconst (v := 1) (by decide) (dk zX11_digest 296 rfl) ?_
    refine x_iload_n 2 rfl rfl (dk zX11_digest 297 rfl) ?_
    refine x_ishl (dk zX11_digest 298 rfl) ?_
    refine x_iconst (v := 1) (by decide) (dk zX11_digest 299 rfl) ?_
    refine x_callV (as := [.int 0, .int (1 <<< ((x3 : Int32) &&& 31)), .int 1]) (o := 123) (ci := 11) (st := [.long (((31)) * v15)]) rfl okRX11_277 npX11_errandsOf ⟨Nat.le_of_ble_eq_true rfl, Nat.le_of_ble_eq_true rfl⟩ k123 (by decide) rfl (Nat.le_of_ble_eq_true rfl) (dk zX11_digest 300 rfl) ?_
    refine hv15.mono ?_
    rintro _ m16 ⟨r17, rfl, hm16⟩
    show Ex E MX11_digest Q 460 [(0, .ref 123), (1, .long v15), (3, .int x3)] [.int r17, .long (((31)) * v15)] m16
    refine x_i2l (dk zX11_digest 301 rfl) ?_
    refine x_ladd (dk zX11_digest 302 rfl) ?_
    refine x_topl (fun v18 ev18 => ?_)
    have hv18 := hm16 v18 ev18
    refine x_lstore_n (k := 1) (l' := [(0, .ref 123), (1, .long v18), (3, .int x3)]) [1, 0, 2] rfl rfl (by decide) (dk zX11_digest 303 rfl) ?_
    obtain ⟨v19, ev19⟩ : ∃ y : Int32, y = x3 + 1 := ⟨_, rfl⟩
    have hv19 := hv18 v19 ev19
    refine x_iinc (v := v19) (l' := [(0, .ref 123), (1, .long v18), (3, .int v19)]) 2 rfl (by rw [ev19]; rfl) [1, 2, 0] rfl (by decide) (dk zX11_digest 304 rfl) ?_
    refine x_goto (tgt := 396) (by decide) (dk zX11_digest 305 rfl) ?_
    exact hv19
set_option maxRecDepth 20000 in
set_option maxHeartbeats 2000000 in
theorem gX11_digest_218 {E : EV} {Q : Po} {μ : Mem} {x1 : Int64} {x3 : Int32} {x4 : Int32} (h : (((μ.1 134 0) ≤ x4 → Ex E MX11_digest Q 256 [(0, .ref 123), (1, .long x1), (3, .int x3), (4, .int 0)] [] μ) ∧ (¬ (μ.1 134 0) ≤ x4 → vp_in x4 120 ∧ (Sp E MX11_byteOf [.int (μ.1 133 x4.toNatClampNeg)] μ (fun v m3 => ∃ r4 : Int32, v = some (.int r4) ∧ ∀ v5 : Int64, v5 = (((31)) * x1) + (Int32.toInt64 r4) → ∀ v6 : Int32, v6 = x4 + 1 → Ex E MX11_digest Q 218 [(0, .ref 123), (1, .long v5), (3, .int x3), (4, .int v6)] [] m3))))) : Ex E MX11_digest Q 218 [(0, .ref 123), (1, .long x1), (3, .int x3), (4, .int x4)] [] μ := by
  refine x_iload 3 rfl (dk zX11_digest 142 rfl) ?_
  refine x_aload_n 0 rfl rfl (dk zX11_digest 143 rfl) ?_
  refine gf11_15 (r := 134) rfl k123 r123_15 (dk zX11_digest 144 rfl) ?_
  refine x_iconst (v := 0) (by decide) (dk zX11_digest 145 rfl) ?_
  refine y_iald (j := 0) k134 l134 (by unfold vp_in; decide) (by decide) (dk zX11_digest 146 rfl) ?_
  refine x_icmp_ge (tgt := 253) (by decide) (dk zX11_digest 147 rfl) (fun c1 => ?_) (fun c1 => ?_)
  · have hc1t := h.1 c1
    refine x_iconst (v := 0) (by decide) (dk zX11_digest 161 rfl) ?_
    refine x_istoreG (l' := [(0, .ref 123), (1, .long x1), (3, .int x3), (4, .int 0)]) [1, 2, 3, 0] rfl (by decide) (dk zX11_digest 162 rfl) ?_
    exact hc1t
  · have hc1f := h.2 c1
    refine x_ldc2 (v := 31) rfl wkRX11_348 (dk zX11_digest 148 rfl) ?_
    refine x_lload_n 1 rfl rfl (dk zX11_digest 149 rfl) ?_
    refine x_lmul (dk zX11_digest 150 rfl) ?_
    refine x_aload_n 0 rfl rfl (dk zX11_digest 151 rfl) ?_
    refine gf11_14 (r := 133) rfl k123 r123_14 (dk zX11_digest 152 rfl) ?_
    refine x_iload 3 rfl (dk zX11_digest 153 rfl) ?_
    have b2 := hc1f.1
    have hb2 := hc1f.2
    refine y_iald (j := x4.toNatClampNeg) k133 l133 b2 rfl (dk zX11_digest 154 rfl) ?_
    refine x_callS (as := [.int (μ.1 133 x4.toNatClampNeg)]) (st := [.long (((31)) * x1)]) rfl okRX11_199 npX11_byteOf ⟨Nat.le_of_ble_eq_true rfl, Nat.le_of_ble_eq_true rfl⟩ (Nat.le_of_ble_eq_true rfl) (dk zX11_digest 155 rfl) ?_
    refine hb2.mono ?_
    rintro _ m3 ⟨r4, rfl, hm3⟩
    show Ex E MX11_digest Q 244 [(0, .ref 123), (1, .long x1), (3, .int x3), (4, .int x4)] [.int r4, .long (((31)) * x1)] m3
    refine x_i2l (dk zX11_digest 156 rfl) ?_
    refine x_ladd (dk zX11_digest 157 rfl) ?_
    refine x_topl (fun v5 ev5 => ?_)
    have hv5 := hm3 v5 ev5
    refine x_lstore_n (k := 1) (l' := [(0, .ref 123), (1, .long v5), (3, .int x3), (4, .int x4)]) [1, 0, 2, 3] rfl rfl (by decide) (dk zX11_digest 158 rfl) ?_
    obtain ⟨v6, ev6⟩ : ∃ y : Int32, y = x4 + 1 := ⟨_, rfl⟩
    have hv6 := hv5 v6 ev6
    refine x_iinc (v := v6) (l' := [(0, .ref 123), (1, .long v5), (3, .int x3), (4, .int v6)]) 3 rfl (by rw [ev6]; rfl) [1, 2, 3, 0] rfl (by decide) (dk zX11_digest 159 rfl) ?_
    refine x_goto (tgt := 218) (by decide) (dk zX11_digest 160 rfl) ?_
    exact hv6
set_option maxRecDepth 20000 in
set_option maxHeartbeats 2000000 in
theorem gX11_digest_256 {E : EV} {Q : Po} {μ : Mem} {x1 : Int64} {x3 : Int32} {x4 : Int32} (h : ((5 ≤ x4 → Sp E MX11_judgedOf [.ref 123, .int x3, .int 0, .int 0, .int 1] μ (fun v m2 => ∃ r3 : Int32, v = some (.int r3) ∧ Sp E MX11_foundOf [.ref 123, .int x3, .int 0] m2 (fun v m4 => ∃ r5 : Int32, v = some (.int r5) ∧ ∀ v6 : Int64, v6 = (((31)) * x1) + (Int32.toInt64 r5) → Sp E MX11_foundOf [.ref 123, .int x3, .int 1] m4 (fun v m7 => ∃ r8 : Int32, v = some (.int r8) ∧ ∀ v9 : Int64, v9 = (((31)) * v6) + (Int32.toInt64 r8) → Sp E MX11_shortestOf [.ref 123, .int 0, .int 0, .int r3, .int x3, .int 0] m7 (fun v m10 => ∃ r11 : Int64, v = some (.long r11) ∧ ∀ v12 : Int64, v12 = (((31)) * v9) + r11 → Sp E MX11_shortestOf [.ref 123, .int 0, .int 0, .int r3, .int x3, .int 1] m10 (fun v m13 => ∃ r14 : Int64, v = some (.long r14) ∧ ∀ v15 : Int64, v15 = (((31)) * v12) + r14 → Sp E MX11_manyOf [.ref 123, .int 0, .int x3, .int r3, .int 6] m13 (fun v m16 => ∃ r17 : Int64, v = some (.long r17) ∧ ∀ v18 : Int64, v18 = (((31)) * v15) + r17 → ∀ v19 : Int32, v19 = x3 + 1 → Ex E MX11_digest Q 190 [(0, .ref 123), (1, .long v18), (3, .int v19)] [] m16))))))) ∧ (¬ 5 ≤ x4 → Sp E MX11_judgedOf [.ref 123, .int x3, .int 0, .int 0, .int x4] μ (fun v m20 => ∃ r21 : Int32, v = some (.int r21) ∧ ∀ v22 : Int64, v22 = (((31)) * x1) + (Int32.toInt64 r21) → ∀ v23 : Int32, v23 = x4 + 1 → Ex E MX11_digest Q 256 [(0, .ref 123), (1, .long v22), (3, .int x3), (4, .int v23)] [] m20)))) : Ex E MX11_digest Q 256 [(0, .ref 123), (1, .long x1), (3, .int x3), (4, .int x4)] [] μ := by
  refine x_iload 3 rfl (dk zX11_digest 163 rfl) ?_
  refine x_iconst (v := 5) (by decide) (dk zX11_digest 164 rfl) ?_
  refine x_icmp_ge (tgt := 285) (by decide) (dk zX11_digest 165 rfl) (fun c1 => ?_) (fun c1 => ?_)
  · have hc1t := h.1 c1
    refine x_aload_n 0 rfl rfl (dk zX11_digest 180 rfl) ?_
    refine x_iload_n 2 rfl rfl (dk zX11_digest 181 rfl) ?_
    refine x_iconst (v := 0) (by decide) (dk zX11_digest 182 rfl) ?_
    refine x_iconst (v := 0) (by decide) (dk zX11_digest 183 rfl) ?_
    refine x_iconst (v := 1) (by decide) (dk zX11_digest 184 rfl) ?_
    refine x_callV (as := [.int x3, .int 0, .int 0, .int 1]) (o := 123) (ci := 11) (st := []) rfl okRX11_210 npX11_judgedOf ⟨Nat.le_of_ble_eq_true rfl, Nat.le_of_ble_eq_true rfl⟩ k123 (by decide) rfl (Nat.le_of_ble_eq_true rfl) (dk zX11_digest 185 rfl) ?_
    refine hc1t.mono ?_
    rintro _ m2 ⟨r3, rfl, hm2⟩
    show Ex E MX11_digest Q 293 [(0, .ref 123), (1, .long x1), (3, .int x3), (4, .int x4)] [.int r3] m2
    refine x_istoreG (l' := [(0, .ref 123), (1, .long x1), (3, .int x3), (4, .int r3)]) [1, 2, 3, 0] rfl (by decide) (dk zX11_digest 186 rfl) ?_
    refine x_ldc2 (v := 31) rfl wkRX11_348 (dk zX11_digest 187 rfl) ?_
    refine x_lload_n 1 rfl rfl (dk zX11_digest 188 rfl) ?_
    refine x_lmul (dk zX11_digest 189 rfl) ?_
    refine x_aload_n 0 rfl rfl (dk zX11_digest 190 rfl) ?_
    refine x_iload_n 2 rfl rfl (dk zX11_digest 191 rfl) ?_
    refine x_iconst (v := 0) (by decide) (dk zX11_digest 192 rfl) ?_
    refine x_callV (as := [.int x3, .int 0]) (o := 123) (ci := 11) (st := [.long (((31)) * x1)]) rfl okRX11_283 npX11_foundOf ⟨Nat.le_of_ble_eq_true rfl, Nat.le_of_ble_eq_true rfl⟩ k123 (by decide) rfl (Nat.le_of_ble_eq_true rfl) (dk zX11_digest 193 rfl) ?_
    refine hm2.mono ?_
    rintro _ m4 ⟨r5, rfl, hm4⟩
    show Ex E MX11_digest Q 306 [(0, .ref 123), (1, .long x1), (3, .int x3), (4, .int r3)] [.int r5, .long (((31)) * x1)] m4
    refine x_i2l (dk zX11_digest 194 rfl) ?_
    refine x_ladd (dk zX11_digest 195 rfl) ?_
    refine x_topl (fun v6 ev6 => ?_)
    have hv6 := hm4 v6 ev6
    refine x_lstore_n (k := 1) (l' := [(0, .ref 123), (1, .long v6), (3, .int x3), (4, .int r3)]) [1, 0, 2, 3] rfl rfl (by decide) (dk zX11_digest 196 rfl) ?_
    refine x_ldc2 (v := 31) rfl wkRX11_348 (dk zX11_digest 197 rfl) ?_
    refine x_lload_n 1 rfl rfl (dk zX11_digest 198 rfl) ?_
    refine x_lmul (dk zX11_digest 199 rfl) ?_
    refine x_aload_n 0 rfl rfl (dk zX11_digest 200 rfl) ?_
    refine x_iload_n 2 rfl rfl (dk zX11_digest 201 rfl) ?_
    refine x_iconst (v := 1) (by decide) (dk zX11_digest 202 rfl) ?_
    refine x_callV (as := [.int x3, .int 1]) (o := 123) (ci := 11) (st := [.long (((31)) * v6)]) rfl okRX11_283 npX11_foundOf ⟨Nat.le_of_ble_eq_true rfl, Nat.le_of_ble_eq_true rfl⟩ k123 (by decide) rfl (Nat.le_of_ble_eq_true rfl) (dk zX11_digest 203 rfl) ?_
    refine hv6.mono ?_
    rintro _ m7 ⟨r8, rfl, hm7⟩
    show Ex E MX11_digest Q 320 [(0, .ref 123), (1, .long v6), (3, .int x3), (4, .int r3)] [.int r8, .long (((31)) * v6)] m7
    refine x_i2l (dk zX11_digest 204 rfl) ?_
    refine x_ladd (dk zX11_digest 205 rfl) ?_
    refine x_topl (fun v9 ev9 => ?_)
    have hv9 := hm7 v9 ev9
    refine x_lstore_n (k := 1) (l' := [(0, .ref 123), (1, .long v9), (3, .int x3), (4, .int r3)]) [1, 0, 2, 3] rfl rfl (by decide) (dk zX11_digest 206 rfl) ?_
    refine x_ldc2 (v := 31) rfl wkRX11_348 (dk zX11_digest 207 rfl) ?_
    refine x_lload_n 1 rfl rfl (dk zX11_digest 208 rfl) ?_
    refine x_lmul (dk zX11_digest 209 rfl) ?_
    refine x_aload_n 0 rfl rfl (dk zX11_digest 210 rfl) ?_
    refine x_iconst (v := 0) (by decide) (dk zX11_digest 211 rfl) ?_
    refine x_iconst (v := 0) (by decide) (dk zX11_digest 212 rfl) ?_
    refine x_iload 3 rfl (dk zX11_digest 213 rfl) ?_
    refine x_iload_n 2 rfl rfl (dk zX11_digest 214 rfl) ?_
    refine x_iconst (v := 0) (by decide) (dk zX11_digest 215 rfl) ?_
    refine x_callV (as := [.int 0, .int 0, .int r3, .int x3, .int 0]) (o := 123) (ci := 11) (st := [.long (((31)) * v9)]) rfl okRX11_259 npX11_shortestOf ⟨Nat.le_of_ble_eq_true rfl, Nat.le_of_ble_eq_true rfl⟩ k123 (by decide) rfl (Nat.le_of_ble_eq_true rfl) (dk zX11_digest 216 rfl) ?_
    refine hv9.mono ?_
    rintro _ m10 ⟨r11, rfl, hm10⟩
    show Ex E MX11_digest Q 338 [(0, .ref 123), (1, .long v9), (3, .int x3), (4, .int r3)] [.long r11, .long (((31)) * v9)] m10
    refine x_ladd (dk zX11_digest 217 rfl) ?_
    refine x_topl (fun v12 ev12 => ?_)
    have hv12 := hm10 v12 ev12
    refine x_lstore_n (k := 1) (l' := [(0, .ref 123), (1, .long v12), (3, .int x3), (4, .int r3)]) [1, 0, 2, 3] rfl rfl (by decide) (dk zX11_digest 218 rfl) ?_
    refine x_ldc2 (v := 31) rfl wkRX11_348 (dk zX11_digest 219 rfl) ?_
    refine x_lload_n 1 rfl rfl (dk zX11_digest 220 rfl) ?_
    refine x_lmul (dk zX11_digest 221 rfl) ?_
    refine x_aload_n 0 rfl rfl (dk zX11_digest 222 rfl) ?_
    refine x_iconst (v := 0) (by decide) (dk zX11_digest 223 rfl) ?_
    refine x_iconst (v := 0) (by decide) (dk zX11_digest 224 rfl) ?_
    refine x_iload 3 rfl (dk zX11_digest 225 rfl) ?_
    refine x_iload_n 2 rfl rfl (dk zX11_digest 226 rfl) ?_
    refine x_iconst (v := 1) (by decide) (dk zX11_digest 227 rfl) ?_
    refine x_callV (as := [.int 0, .int 0, .int r3, .int x3, .int 1]) (o := 123) (ci := 11) (st := [.long (((31)) * v12)]) rfl okRX11_259 npX11_shortestOf ⟨Nat.le_of_ble_eq_true rfl, Nat.le_of_ble_eq_true rfl⟩ k123 (by decide) rfl (Nat.le_of_ble_eq_true rfl) (dk zX11_digest 228 rfl) ?_
    refine hv12.mono ?_
    rintro _ m13 ⟨r14, rfl, hm13⟩
    show Ex E MX11_digest Q 355 [(0, .ref 123), (1, .long v12), (3, .int x3), (4, .int r3)] [.long r14, .long (((31)) * v12)] m13
    refine x_ladd (dk zX11_digest 229 rfl) ?_
    refine x_topl (fun v15 ev15 => ?_)
    have hv15 := hm13 v15 ev15
    refine x_lstore_n (k := 1) (l' := [(0, .ref 123), (1, .long v15), (3, .int x3), (4, .int r3)]) [1, 0, 2, 3] rfl rfl (by decide) (dk zX11_digest 230 rfl) ?_
    refine x_ldc2 (v := 31) rfl wkRX11_348 (dk zX11_digest 231 rfl) ?_
    refine x_lload_n 1 rfl rfl (dk zX11_digest 232 rfl) ?_
    refine x_lmul (dk zX11_digest 233 rfl) ?_
    refine x_aload_n 0 rfl rfl (dk zX11_digest 234 rfl) ?_
    refine x_iconst (v := 0) (by decide) (dk zX11_digest 235 rfl) ?_
    refine x_iload_n 2 rfl rfl (dk zX11_digest 236 rfl) ?_
    refine x_iload 3 rfl (dk zX11_digest 237 rfl) ?_
    refine x_bipush (v := 6) (by decide) (dk zX11_digest 238 rfl) ?_
    refine x_callV (as := [.int 0, .int x3, .int r3, .int 6]) (o := 123) (ci := 11) (st := [.long (((31)) * v15)]) rfl okRX11_300 npX11_manyOf ⟨Nat.le_of_ble_eq_true rfl, Nat.le_of_ble_eq_true rfl⟩ k123 (by decide) rfl (Nat.le_of_ble_eq_true rfl) (dk zX11_digest 239 rfl) ?_
    refine hv15.mono ?_
    rintro _ m16 ⟨r17, rfl, hm16⟩
    show Ex E MX11_digest Q 372 [(0, .ref 123), (1, .long v15), (3, .int x3), (4, .int r3)] [.long r17, .long (((31)) * v15)] m16
    refine x_ladd (dk zX11_digest 240 rfl) ?_
    refine x_topl (fun v18 ev18 => ?_)
    have hv18 := hm16 v18 ev18
    refine x_lstore_n (k := 1) (l' := [(0, .ref 123), (1, .long v18), (3, .int x3), (4, .int r3)]) [1, 0, 2, 3] rfl rfl (by decide) (dk zX11_digest 241 rfl) ?_
    obtain ⟨v19, ev19⟩ : ∃ y : Int32, y = x3 + 1 := ⟨_, rfl⟩
    have hv19 := hv18 v19 ev19
    refine x_iinc (v := v19) (l' := [(0, .ref 123), (1, .long v18), (3, .int v19), (4, .int r3)]) 2 rfl (by rw [ev19]; rfl) [1, 2, 0, 3] rfl (by decide) (dk zX11_digest 242 rfl) ?_
    refine x_goto (tgt := 190) (by decide) (dk zX11_digest 243 rfl) ?_
    exact x_sub [0, 1, 2] rfl hv19
  · have hc1f := h.2 c1
    refine x_ldc2 (v := 31) rfl wkRX11_348 (dk zX11_digest 166 rfl) ?_
    refine x_lload_n 1 rfl rfl (dk zX11_digest 167 rfl) ?_
    refine x_lmul (dk zX11_digest 168 rfl) ?_
    refine x_aload_n 0 rfl rfl (dk zX11_digest 169 rfl) ?_
    refine x_iload_n 2 rfl rfl (dk zX11_digest 170 rfl) ?_
    refine x_iconst (v := 0) (by decide) (dk zX11_digest 171 rfl) ?_
    refine x_iconst (v := 0) (by decide) (dk zX11_digest 172 rfl) ?_
    refine x_iload 3 rfl (dk zX11_digest 173 rfl) ?_
    refine x_callV (as := [.int x3, .int 0, .int 0, .int x4]) (o := 123) (ci := 11) (st := [.long (((31)) * x1)]) rfl okRX11_210 npX11_judgedOf ⟨Nat.le_of_ble_eq_true rfl, Nat.le_of_ble_eq_true rfl⟩ k123 (by decide) rfl (Nat.le_of_ble_eq_true rfl) (dk zX11_digest 174 rfl) ?_
    refine hc1f.mono ?_
    rintro _ m20 ⟨r21, rfl, hm20⟩
    show Ex E MX11_digest Q 276 [(0, .ref 123), (1, .long x1), (3, .int x3), (4, .int x4)] [.int r21, .long (((31)) * x1)] m20
    refine x_i2l (dk zX11_digest 175 rfl) ?_
    refine x_ladd (dk zX11_digest 176 rfl) ?_
    refine x_topl (fun v22 ev22 => ?_)
    have hv22 := hm20 v22 ev22
    refine x_lstore_n (k := 1) (l' := [(0, .ref 123), (1, .long v22), (3, .int x3), (4, .int x4)]) [1, 0, 2, 3] rfl rfl (by decide) (dk zX11_digest 177 rfl) ?_
    obtain ⟨v23, ev23⟩ : ∃ y : Int32, y = x4 + 1 := ⟨_, rfl⟩
    have hv23 := hv22 v23 ev23
    refine x_iinc (v := v23) (l' := [(0, .ref 123), (1, .long v22), (3, .int x3), (4, .int v23)]) 3 rfl (by rw [ev23]; rfl) [1, 2, 3, 0] rfl (by decide) (dk zX11_digest 178 rfl) ?_
    refine x_goto (tgt := 256) (by decide) (dk zX11_digest 179 rfl) ?_
    exact hv23
