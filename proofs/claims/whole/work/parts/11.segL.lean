set_option maxRecDepth 20000 in
set_option maxHeartbeats 2000000 in
theorem gX3_gatesTold_0 {E : EV} {Q : Po} {μ : Mem}  (h : Q (some (.int (μ.1 1 1))) μ) : Ex E MX3_gatesTold Q 0 [(0, .ref 1)] [] μ := by
  refine x_aload_n 0 rfl rfl (dk zX3_gatesTold 0 rfl) ?_
  refine gf3_1 rfl k1 (dk zX3_gatesTold 1 rfl) ?_
  exact x_iret (ty := .int) rfl rfl (dk zX3_gatesTold 2 rfl) h
set_option maxRecDepth 20000 in
set_option maxHeartbeats 2000000 in
theorem gX3_from_0 {E : EV} {Q : Po} {μ : Mem} {x1 : Int32} (h : ((x1 < 0 → Q (some (.int ((-1)))) μ) ∧ (¬ x1 < 0 → ((18 ≤ x1 → Q (some (.int ((-1)))) μ) ∧ (¬ 18 ≤ x1 → vp_in x1 18 ∧ (Q (some (.int (μ.1 2 x1.toNatClampNeg))) μ)))))) : Ex E MX3_from Q 0 [(0, .ref 1), (1, .int x1)] [] μ := by
  refine x_iload_n 1 rfl rfl (dk zX3_from 0 rfl) ?_
  refine x_if_lt (tgt := 19) (by decide) (dk zX3_from 1 rfl) (fun c1 => ?_) (fun c1 => ?_)
  · have hc1t := h.1 c1
    refine x_iconst (v := -1) (by decide) (dk zX3_from 10 rfl) ?_
    exact x_iret (ty := .int) rfl rfl (dk zX3_from 11 rfl) hc1t
  · have hc1f := h.2 c1
    refine x_iload_n 1 rfl rfl (dk zX3_from 2 rfl) ?_
    refine x_bipush (v := 18) (by decide) (dk zX3_from 3 rfl) ?_
    refine x_icmp_ge (tgt := 19) (by decide) (dk zX3_from 4 rfl) (fun c2 => ?_) (fun c2 => ?_)
    · have hc2t := hc1f.1 c2
      refine x_iconst (v := -1) (by decide) (dk zX3_from 10 rfl) ?_
      exact x_iret (ty := .int) rfl rfl (dk zX3_from 11 rfl) hc2t
    · have hc2f := hc1f.2 c2
      refine x_aload_n 0 rfl rfl (dk zX3_from 5 rfl) ?_
      refine gf3_0 (r := 2) rfl k1 r1_0 (dk zX3_from 6 rfl) ?_
      refine x_iload_n 1 rfl rfl (dk zX3_from 7 rfl) ?_
      have b3 := hc2f.1
      have hb3 := hc2f.2
      refine y_iald (j := x1.toNatClampNeg) k2 l2 b3 rfl (dk zX3_from 8 rfl) ?_
      refine x_goto (tgt := 20) (by decide) (dk zX3_from 9 rfl) ?_
      exact x_iret (ty := .int) rfl rfl (dk zX3_from 11 rfl) hb3
set_option maxRecDepth 20000 in
set_option maxHeartbeats 2000000 in
theorem gX3_to_0 {E : EV} {Q : Po} {μ : Mem} {x1 : Int32} (h : ((x1 < 0 → Q (some (.int ((-1)))) μ) ∧ (¬ x1 < 0 → ((18 ≤ x1 → Q (some (.int ((-1)))) μ) ∧ (¬ 18 ≤ x1 → vp_in (x1 ^^^ 1) 18 ∧ (Q (some (.int (μ.1 2 ((x1 ^^^ 1).toNatClampNeg)))) μ)))))) : Ex E MX3_to Q 0 [(0, .ref 1), (1, .int x1)] [] μ := by
  refine x_iload_n 1 rfl rfl (dk zX3_to 0 rfl) ?_
  refine x_if_lt (tgt := 21) (by decide) (dk zX3_to 1 rfl) (fun c1 => ?_) (fun c1 => ?_)
  · have hc1t := h.1 c1
    refine x_iconst (v := -1) (by decide) (dk zX3_to 12 rfl) ?_
    exact x_iret (ty := .int) rfl rfl (dk zX3_to 13 rfl) hc1t
  · have hc1f := h.2 c1
    refine x_iload_n 1 rfl rfl (dk zX3_to 2 rfl) ?_
    refine x_bipush (v := 18) (by decide) (dk zX3_to 3 rfl) ?_
    refine x_icmp_ge (tgt := 21) (by decide) (dk zX3_to 4 rfl) (fun c2 => ?_) (fun c2 => ?_)
    · have hc2t := hc1f.1 c2
      refine x_iconst (v := -1) (by decide) (dk zX3_to 12 rfl) ?_
      exact x_iret (ty := .int) rfl rfl (dk zX3_to 13 rfl) hc2t
    · have hc2f := hc1f.2 c2
      refine x_aload_n 0 rfl rfl (dk zX3_to 5 rfl) ?_
      refine gf3_0 (r := 2) rfl k1 r1_0 (dk zX3_to 6 rfl) ?_
      refine x_iload_n 1 rfl rfl (dk zX3_to 7 rfl) ?_
      refine x_iconst (v := 1) (by decide) (dk zX3_to 8 rfl) ?_
      refine x_ixor (dk zX3_to 9 rfl) ?_
      have b3 := hc2f.1
      have hb3 := hc2f.2
      refine y_iald (j := (x1 ^^^ 1).toNatClampNeg) k2 l2 b3 rfl (dk zX3_to 10 rfl) ?_
      refine x_goto (tgt := 22) (by decide) (dk zX3_to 11 rfl) ?_
      exact x_iret (ty := .int) rfl rfl (dk zX3_to 13 rfl) hb3
set_option maxRecDepth 20000 in
set_option maxHeartbeats 2000000 in
theorem gX3_openLanes_0 {E : EV} {Q : Po} {μ : Mem}  (h : Q (some (.int ((((1 <<< (((μ.1 1 1) : Int32) &&& 31)) - 1) &&& ((μ.1 1 3) ^^^ ((-1)))) &&& ((μ.1 1 2) ^^^ ((-1)))))) μ) : Ex E MX3_openLanes Q 0 [(0, .ref 1)] [] μ := by
  refine x_iconst (v := 1) (by decide) (dk zX3_openLanes 0 rfl) ?_
  refine x_aload_n 0 rfl rfl (dk zX3_openLanes 1 rfl) ?_
  refine gf3_1 rfl k1 (dk zX3_openLanes 2 rfl) ?_
  refine x_ishl (dk zX3_openLanes 3 rfl) ?_
  refine x_iconst (v := 1) (by decide) (dk zX3_openLanes 4 rfl) ?_
  refine x_isub (dk zX3_openLanes 5 rfl) ?_
  refine x_aload_n 0 rfl rfl (dk zX3_openLanes 6 rfl) ?_
  refine gf3_3 rfl k1 (dk zX3_openLanes 7 rfl) ?_
  refine x_iconst (v := -1) (by decide) (dk zX3_openLanes 8 rfl) ?_
  refine x_ixor (dk zX3_openLanes 9 rfl) ?_
  refine x_iand (dk zX3_openLanes 10 rfl) ?_
  refine x_aload_n 0 rfl rfl (dk zX3_openLanes 11 rfl) ?_
  refine gf3_2 rfl k1 (dk zX3_openLanes 12 rfl) ?_
  refine x_iconst (v := -1) (by decide) (dk zX3_openLanes 13 rfl) ?_
  refine x_ixor (dk zX3_openLanes 14 rfl) ?_
  refine x_iand (dk zX3_openLanes 15 rfl) ?_
  exact x_iret (ty := .int) rfl rfl (dk zX3_openLanes 16 rfl) h
set_option maxRecDepth 20000 in
set_option maxHeartbeats 2000000 in
theorem gX3_roomTold_0 {E : EV} {Q : Po} {μ : Mem}  (h : Q (some (.int (μ.1 1 4))) μ) : Ex E MX3_roomTold Q 0 [(0, .ref 1)] [] μ := by
  refine x_aload_n 0 rfl rfl (dk zX3_roomTold 0 rfl) ?_
  refine gf3_4 rfl k1 (dk zX3_roomTold 1 rfl) ?_
  exact x_iret (ty := .int) rfl rfl (dk zX3_roomTold 2 rfl) h
set_option maxRecDepth 20000 in
set_option maxHeartbeats 2000000 in
theorem gX3_letters_0 {E : EV} {Q : Po} {μ : Mem}  (h : Q (some (.int (2 * (μ.1 1 1)))) μ) : Ex E MX3_letters Q 0 [(0, .ref 1)] [] μ := by
  refine x_iconst (v := 2) (by decide) (dk zX3_letters 0 rfl) ?_
  refine x_aload_n 0 rfl rfl (dk zX3_letters 1 rfl) ?_
  refine gf3_1 rfl k1 (dk zX3_letters 2 rfl) ?_
  refine x_imul (dk zX3_letters 3 rfl) ?_
  exact x_iret (ty := .int) rfl rfl (dk zX3_letters 4 rfl) h
set_option maxRecDepth 20000 in
set_option maxHeartbeats 2000000 in
theorem gX3_isOpen_0 {E : EV} {Q : Po} {μ : Mem} {x1 : Int32} (h : ((x1 < 0 → Q (some (.int 0)) μ) ∧ (¬ x1 < 0 → ((¬ (((μ.1 1 3) >>> (((x1 >>> ((1 : Int32) &&& 31)) : Int32) &&& 31)) &&& 1) = 0 → Q (some (.int 0)) μ) ∧ ((((μ.1 1 3) >>> (((x1 >>> ((1 : Int32) &&& 31)) : Int32) &&& 31)) &&& 1) = 0 → Q (some (.int 1)) μ))))) : Ex E MX3_isOpen Q 0 [(0, .ref 1), (1, .int x1)] [] μ := by
  refine x_iload_n 1 rfl rfl (dk zX3_isOpen 0 rfl) ?_
  refine x_if_lt (tgt := 21) (by decide) (dk zX3_isOpen 1 rfl) (fun c1 => ?_) (fun c1 => ?_)
  · have hc1t := h.1 c1
    refine x_iconst (v := 0) (by decide) (dk zX3_isOpen 13 rfl) ?_
    exact x_iret rfl rfl (dk zX3_isOpen 14 rfl) hc1t
  · have hc1f := h.2 c1
    refine x_aload_n 0 rfl rfl (dk zX3_isOpen 2 rfl) ?_
    refine gf3_3 rfl k1 (dk zX3_isOpen 3 rfl) ?_
    refine x_iload_n 1 rfl rfl (dk zX3_isOpen 4 rfl) ?_
    refine x_iconst (v := 1) (by decide) (dk zX3_isOpen 5 rfl) ?_
    refine x_ishr (dk zX3_isOpen 6 rfl) ?_
    refine x_ishr (dk zX3_isOpen 7 rfl) ?_
    refine x_iconst (v := 1) (by decide) (dk zX3_isOpen 8 rfl) ?_
    refine x_iand (dk zX3_isOpen 9 rfl) ?_
    refine x_if_ne (tgt := 21) (by decide) (dk zX3_isOpen 10 rfl) (fun c2 => ?_) (fun c2 => ?_)
    · have hc2t := hc1f.1 c2
      refine x_iconst (v := 0) (by decide) (dk zX3_isOpen 13 rfl) ?_
      exact x_iret rfl rfl (dk zX3_isOpen 14 rfl) hc2t
    · have hc2f := hc1f.2 c2
      refine x_iconst (v := 1) (by decide) (dk zX3_isOpen 11 rfl) ?_
      refine x_goto (tgt := 22) (by decide) (dk zX3_isOpen 12 rfl) ?_
      exact x_iret rfl rfl (dk zX3_isOpen 14 rfl) hc2f
set_option maxRecDepth 20000 in
set_option maxHeartbeats 2000000 in
theorem gX3_isWatched_0 {E : EV} {Q : Po} {μ : Mem} {x1 : Int32} (h : ((x1 < 0 → Q (some (.int 0)) μ) ∧ (¬ x1 < 0 → ((¬ (((μ.1 1 2) >>> (((x1 >>> ((1 : Int32) &&& 31)) : Int32) &&& 31)) &&& 1) = 1 → Q (some (.int 0)) μ) ∧ ((((μ.1 1 2) >>> (((x1 >>> ((1 : Int32) &&& 31)) : Int32) &&& 31)) &&& 1) = 1 → Q (some (.int 1)) μ))))) : Ex E MX3_isWatched Q 0 [(0, .ref 1), (1, .int x1)] [] μ := by
  refine x_iload_n 1 rfl rfl (dk zX3_isWatched 0 rfl) ?_
  refine x_if_lt (tgt := 22) (by decide) (dk zX3_isWatched 1 rfl) (fun c1 => ?_) (fun c1 => ?_)
  · have hc1t := h.1 c1
    refine x_iconst (v := 0) (by decide) (dk zX3_isWatched 14 rfl) ?_
    exact x_iret rfl rfl (dk zX3_isWatched 15 rfl) hc1t
  · have hc1f := h.2 c1
    refine x_aload_n 0 rfl rfl (dk zX3_isWatched 2 rfl) ?_
    refine gf3_2 rfl k1 (dk zX3_isWatched 3 rfl) ?_
    refine x_iload_n 1 rfl rfl (dk zX3_isWatched 4 rfl) ?_
    refine x_iconst (v := 1) (by decide) (dk zX3_isWatched 5 rfl) ?_
    refine x_ishr (dk zX3_isWatched 6 rfl) ?_
    refine x_ishr (dk zX3_isWatched 7 rfl) ?_
    refine x_iconst (v := 1) (by decide) (dk zX3_isWatched 8 rfl) ?_
    refine x_iand (dk zX3_isWatched 9 rfl) ?_
    refine x_iconst (v := 1) (by decide) (dk zX3_isWatched 10 rfl) ?_
    refine x_icmp_ne (tgt := 22) (by decide) (dk zX3_isWatched 11 rfl) (fun c2 => ?_) (fun c2 => ?_)
    · have hc2t := hc1f.1 c2
      refine x_iconst (v := 0) (by decide) (dk zX3_isWatched 14 rfl) ?_
      exact x_iret rfl rfl (dk zX3_isWatched 15 rfl) hc2t
    · have hc2f := hc1f.2 c2
      refine x_iconst (v := 1) (by decide) (dk zX3_isWatched 12 rfl) ?_
      refine x_goto (tgt := 23) (by decide) (dk zX3_isWatched 13 rfl) ?_
      exact x_iret rfl rfl (dk zX3_isWatched 15 rfl) hc2f
set_option maxRecDepth 20000 in
set_option maxHeartbeats 2000000 in
theorem gX2_onPaper_0 {E : EV} {Q : Po} {μ : Mem}  (h : Q (some (.ref 9)) μ) : Ex E MX2_onPaper Q 0 [(0, .ref 8)] [] μ := by
  refine x_aload_n 0 rfl rfl (dk zX2_onPaper 0 rfl) ?_
  refine gf2_1 (r := 9) rfl k8 r8_1 (dk zX2_onPaper 1 rfl) ?_
  exact x_aret rfl (Or.inl ⟨_, rfl⟩) (dk zX2_onPaper 2 rfl) h
set_option maxRecDepth 20000 in
set_option maxHeartbeats 2000000 in
theorem gX2_begin_0 {E : EV} {Q : Po} {μ : Mem} {x1 : Int32} (h : Sp E MX5_size [.ref 9] (mI (mI μ 8 2 ((-1))) 8 3 x1) (fun v m1 => ∃ r2 : Int32, v = some (.int r2) ∧ Q none (mI (mI m1 8 4 r2) 8 5 0))) : Ex E MX2_begin Q 0 [(0, .ref 8), (1, .int x1)] [] μ := by
  refine x_aload_n 0 rfl rfl (dk zX2_begin 0 rfl) ?_
  refine x_iconst (v := -1) (by decide) (dk zX2_begin 1 rfl) ?_
  refine pf2_2 rfl k8 (dk zX2_begin 2 rfl) ?_
  refine x_aload_n 0 rfl rfl (dk zX2_begin 3 rfl) ?_
  refine x_iload_n 1 rfl rfl (dk zX2_begin 4 rfl) ?_
  refine pf2_3 rfl k8 (dk zX2_begin 5 rfl) ?_
  refine x_aload_n 0 rfl rfl (dk zX2_begin 6 rfl) ?_
  refine x_aload_n 0 rfl rfl (dk zX2_begin 7 rfl) ?_
  refine gf2_1 (r := 9) rfl k8 r8_1 (dk zX2_begin 8 rfl) ?_
  refine x_callV (as := []) (o := 9) (ci := 5) (st := [.ref 8]) rfl okRX2_29 npX5_size ⟨Nat.le_of_ble_eq_true rfl, Nat.le_of_ble_eq_true rfl⟩ k9 (by decide) rfl (Nat.le_of_ble_eq_true rfl) (dk zX2_begin 9 rfl) ?_
  refine h.mono ?_
  rintro _ m1 ⟨r2, rfl, hm1⟩
  show Ex E MX2_begin Q 18 [(0, .ref 8), (1, .int x1)] [.int r2, .ref 8] m1
  refine pf2_4 rfl k8 (dk zX2_begin 10 rfl) ?_
  refine x_aload_n 0 rfl rfl (dk zX2_begin 11 rfl) ?_
  refine x_iconst (v := 0) (by decide) (dk zX2_begin 12 rfl) ?_
  refine pf2_5 rfl k8 (dk zX2_begin 13 rfl) ?_
  exact x_vret rfl (dk zX2_begin 14 rfl) hm1
set_option maxRecDepth 20000 in
set_option maxHeartbeats 2000000 in
theorem gX3_letterOf_0 {E : EV} {Q : Po} {μ : Mem} {x1 : Int32} (h : ((x1 < 97 → ((x1 < 65 → Q (some (.int ((-1)))) μ) ∧ (¬ x1 < 65 → (((65 + (μ.1 1 1)) ≤ x1 → Q (some (.int ((-1)))) μ) ∧ (¬ (65 + (μ.1 1 1)) ≤ x1 → Q (some (.int ((2 * (x1 - 65)) + 1))) μ))))) ∧ (¬ x1 < 97 → (((97 + (μ.1 1 1)) ≤ x1 → ((x1 < 65 → Q (some (.int ((-1)))) μ) ∧ (¬ x1 < 65 → (((65 + (μ.1 1 1)) ≤ x1 → Q (some (.int ((-1)))) μ) ∧ (¬ (65 + (μ.1 1 1)) ≤ x1 → Q (some (.int ((2 * (x1 - 65)) + 1))) μ))))) ∧ (¬ (97 + (μ.1 1 1)) ≤ x1 → Q (some (.int (2 * (x1 - 97)))) μ))))) : Ex E MX3_letterOf Q 0 [(0, .ref 1), (1, .int x1)] [] μ := by
  refine x_iload_n 1 rfl rfl (dk zX3_letterOf 0 rfl) ?_
  refine x_bipush (v := 97) (by decide) (dk zX3_letterOf 1 rfl) ?_
  refine x_icmp_lt (tgt := 24) (by decide) (dk zX3_letterOf 2 rfl) (fun c1 => ?_) (fun c1 => ?_)
  · have hc1t := h.1 c1
    refine x_iload_n 1 rfl rfl (dk zX3_letterOf 15 rfl) ?_
    refine x_bipush (v := 65) (by decide) (dk zX3_letterOf 16 rfl) ?_
    refine x_icmp_lt (tgt := 50) (by decide) (dk zX3_letterOf 17 rfl) (fun c2 => ?_) (fun c2 => ?_)
    · have hc2t := hc1t.1 c2
      refine x_iconst (v := -1) (by decide) (dk zX3_letterOf 32 rfl) ?_
      exact x_iret (ty := .int) rfl rfl (dk zX3_letterOf 33 rfl) hc2t
    · have hc2f := hc1t.2 c2
      refine x_iload_n 1 rfl rfl (dk zX3_letterOf 18 rfl) ?_
      refine x_bipush (v := 65) (by decide) (dk zX3_letterOf 19 rfl) ?_
      refine x_aload_n 0 rfl rfl (dk zX3_letterOf 20 rfl) ?_
      refine gf3_1 rfl k1 (dk zX3_letterOf 21 rfl) ?_
      refine x_iadd (dk zX3_letterOf 22 rfl) ?_
      refine x_icmp_ge (tgt := 50) (by decide) (dk zX3_letterOf 23 rfl) (fun c3 => ?_) (fun c3 => ?_)
      · have hc3t := hc2f.1 c3
        refine x_iconst (v := -1) (by decide) (dk zX3_letterOf 32 rfl) ?_
        exact x_iret (ty := .int) rfl rfl (dk zX3_letterOf 33 rfl) hc3t
      · have hc3f := hc2f.2 c3
        refine x_iconst (v := 2) (by decide) (dk zX3_letterOf 24 rfl) ?_
        refine x_iload_n 1 rfl rfl (dk zX3_letterOf 25 rfl) ?_
        refine x_bipush (v := 65) (by decide) (dk zX3_letterOf 26 rfl) ?_
        refine x_isub (dk zX3_letterOf 27 rfl) ?_
        refine x_imul (dk zX3_letterOf 28 rfl) ?_
        refine x_iconst (v := 1) (by decide) (dk zX3_letterOf 29 rfl) ?_
        refine x_iadd (dk zX3_letterOf 30 rfl) ?_
        exact x_iret (ty := .int) rfl rfl (dk zX3_letterOf 31 rfl) hc3f
  · have hc1f := h.2 c1
    refine x_iload_n 1 rfl rfl (dk zX3_letterOf 3 rfl) ?_
    refine x_bipush (v := 97) (by decide) (dk zX3_letterOf 4 rfl) ?_
    refine x_aload_n 0 rfl rfl (dk zX3_letterOf 5 rfl) ?_
    refine gf3_1 rfl k1 (dk zX3_letterOf 6 rfl) ?_
    refine x_iadd (dk zX3_letterOf 7 rfl) ?_
    refine x_icmp_ge (tgt := 24) (by decide) (dk zX3_letterOf 8 rfl) (fun c4 => ?_) (fun c4 => ?_)
    · have hc4t := hc1f.1 c4
      refine x_iload_n 1 rfl rfl (dk zX3_letterOf 15 rfl) ?_
      refine x_bipush (v := 65) (by decide) (dk zX3_letterOf 16 rfl) ?_
      refine x_icmp_lt (tgt := 50) (by decide) (dk zX3_letterOf 17 rfl) (fun c5 => ?_) (fun c5 => ?_)
      · have hc5t := hc4t.1 c5
        refine x_iconst (v := -1) (by decide) (dk zX3_letterOf 32 rfl) ?_
        exact x_iret (ty := .int) rfl rfl (dk zX3_letterOf 33 rfl) hc5t
      · have hc5f := hc4t.2 c5
        refine x_iload_n 1 rfl rfl (dk zX3_letterOf 18 rfl) ?_
        refine x_bipush (v := 65) (by decide) (dk zX3_letterOf 19 rfl) ?_
        refine x_aload_n 0 rfl rfl (dk zX3_letterOf 20 rfl) ?_
        refine gf3_1 rfl k1 (dk zX3_letterOf 21 rfl) ?_
        refine x_iadd (dk zX3_letterOf 22 rfl) ?_
        refine x_icmp_ge (tgt := 50) (by decide) (dk zX3_letterOf 23 rfl) (fun c6 => ?_) (fun c6 => ?_)
        · have hc6t := hc5f.1 c6
          refine x_iconst (v := -1) (by decide) (dk zX3_letterOf 32 rfl) ?_
          exact x_iret (ty := .int) rfl rfl (dk zX3_letterOf 33 rfl) hc6t
        · have hc6f := hc5f.2 c6
          refine x_iconst (v := 2) (by decide) (dk zX3_letterOf 24 rfl) ?_
          refine x_iload_n 1 rfl rfl (dk zX3_letterOf 25 rfl) ?_
          refine x_bipush (v := 65) (by decide) (dk zX3_letterOf 26 rfl) ?_
          refine x_isub (dk zX3_letterOf 27 rfl) ?_
          refine x_imul (dk zX3_letterOf 28 rfl) ?_
          refine x_iconst (v := 1) (by decide) (dk zX3_letterOf 29 rfl) ?_
          refine x_iadd (dk zX3_letterOf 30 rfl) ?_
          exact x_iret (ty := .int) rfl rfl (dk zX3_letterOf 31 rfl) hc6f
    · have hc4f := hc1f.2 c4
      refine x_iconst (v := 2) (by decide) (dk zX3_letterOf 9 rfl) ?_
      refine x_iload_n 1 rfl rfl (dk zX3_letterOf 10 rfl) ?_
      refine x_bipush (v := 97) (by decide) (dk zX3_letterOf 11 rfl) ?_
      refine x_isub (dk zX3_letterOf 12 rfl) ?_
      refine x_imul (dk zX3_letterOf 13 rfl) ?_
      exact x_iret (ty := .int) rfl rfl (dk zX3_letterOf 14 rfl) hc4f
set_option maxRecDepth 20000 in
set_option maxHeartbeats 2000000 in
theorem gX2_mayPass_0 {E : EV} {Q : Po} {μ : Mem} {x1 : Int32} (h : Sp E MX3_from [.ref 1, .int x1] μ (fun v m1 => ∃ r2 : Int32, v = some (.int r2) ∧ ((¬ r2 = (m1.1 8 3) → Q (some (.int 0)) m1) ∧ (r2 = (m1.1 8 3) → Sp E MX3_isOpen [.ref 1, .int x1] m1 (fun v m4 => ∃ r5 : Int32, v = some (.int r5) ∧ ((¬ r5 = 0 → Sp E MX3_isWatched [.ref 1, .int x1] m4 (fun v m7 => ∃ r8 : Int32, v = some (.int r8) ∧ ((r8 = 0 → Q (some (.int 1)) m7) ∧ (¬ r8 = 0 → Sp E MX5_strikes [.ref 9, .int x1] m7 (fun v m10 => ∃ r11 : Int32, v = some (.int r11) ∧ ((¬ r11 = 0 → Q (some (.int 1)) m10) ∧ (r11 = 0 → Sp E MX5_size [.ref 9] m10 (fun v m13 => ∃ r14 : Int32, v = some (.int r14) ∧ Sp E MX3_roomTold [.ref 1] m13 (fun v m15 => ∃ r16 : Int32, v = some (.int r16) ∧ ((r16 ≤ r14 → Q (some (.int 0)) m15) ∧ (¬ r16 ≤ r14 → Q (some (.int 1)) m15))))))))))) ∧ (r5 = 0 → Q (some (.int 0)) m4))))))) : Ex E MX2_mayPass Q 0 [(0, .ref 8), (1, .int x1)] [] μ := by
  refine x_aload_n 0 rfl rfl (dk zX2_mayPass 0 rfl) ?_
  refine gf2_0 (r := 1) rfl k8 r8_0 (dk zX2_mayPass 1 rfl) ?_
  refine x_iload_n 1 rfl rfl (dk zX2_mayPass 2 rfl) ?_
  refine x_callV (as := [.int x1]) (o := 1) (ci := 3) (st := []) rfl okRX2_59 npX3_from ⟨Nat.le_of_ble_eq_true rfl, Nat.le_of_ble_eq_true rfl⟩ k1 (by decide) rfl (Nat.le_of_ble_eq_true rfl) (dk zX2_mayPass 3 rfl) ?_
  refine h.mono ?_
  rintro _ m1 ⟨r2, rfl, hm1⟩
  show Ex E MX2_mayPass Q 8 [(0, .ref 8), (1, .int x1)] [.int r2] m1
  refine x_aload_n 0 rfl rfl (dk zX2_mayPass 4 rfl) ?_
  refine gf2_3 rfl k8 (dk zX2_mayPass 5 rfl) ?_
  refine x_icmp_ne (tgt := 26) (by decide) (dk zX2_mayPass 6 rfl) (fun c3 => ?_) (fun c3 => ?_)
  · have hc3t := hm1.1 c3
    refine x_iconst (v := 0) (by decide) (dk zX2_mayPass 12 rfl) ?_
    exact x_iret rfl rfl (dk zX2_mayPass 13 rfl) hc3t
  · have hc3f := hm1.2 c3
    refine x_aload_n 0 rfl rfl (dk zX2_mayPass 7 rfl) ?_
    refine gf2_0 (r := 1) rfl k8 r8_0 (dk zX2_mayPass 8 rfl) ?_
    refine x_iload_n 1 rfl rfl (dk zX2_mayPass 9 rfl) ?_
    refine x_callV (as := [.int x1]) (o := 1) (ci := 3) (st := []) rfl okRX2_62 npX3_isOpen ⟨Nat.le_of_ble_eq_true rfl, Nat.le_of_ble_eq_true rfl⟩ k1 (by decide) rfl (Nat.le_of_ble_eq_true rfl) (dk zX2_mayPass 10 rfl) ?_
    refine hc3f.mono ?_
    rintro _ m4 ⟨r5, rfl, hm4⟩
    show Ex E MX2_mayPass Q 23 [(0, .ref 8), (1, .int x1)] [.int r5] m4
    refine x_if_ne (tgt := 28) (by decide) (dk zX2_mayPass 11 rfl) (fun c6 => ?_) (fun c6 => ?_)
    · have hc6t := hm4.1 c6
      refine x_aload_n 0 rfl rfl (dk zX2_mayPass 14 rfl) ?_
      refine gf2_0 (r := 1) rfl k8 r8_0 (dk zX2_mayPass 15 rfl) ?_
      refine x_iload_n 1 rfl rfl (dk zX2_mayPass 16 rfl) ?_
      refine x_callV (as := [.int x1]) (o := 1) (ci := 3) (st := []) rfl okRX2_65 npX3_isWatched ⟨Nat.le_of_ble_eq_true rfl, Nat.le_of_ble_eq_true rfl⟩ k1 (by decide) rfl (Nat.le_of_ble_eq_true rfl) (dk zX2_mayPass 17 rfl) ?_
      refine hc6t.mono ?_
      rintro _ m7 ⟨r8, rfl, hm7⟩
      show Ex E MX2_mayPass Q 36 [(0, .ref 8), (1, .int x1)] [.int r8] m7
      refine x_if_eq (tgt := 67) (by decide) (dk zX2_mayPass 18 rfl) (fun c9 => ?_) (fun c9 => ?_)
      · have hc9t := hm7.1 c9
        refine x_iconst (v := 1) (by decide) (dk zX2_mayPass 31 rfl) ?_
        refine x_goto (tgt := 72) (by decide) (dk zX2_mayPass 32 rfl) ?_
        exact x_iret rfl rfl (dk zX2_mayPass 34 rfl) hc9t
      · have hc9f := hm7.2 c9
        refine x_aload_n 0 rfl rfl (dk zX2_mayPass 19 rfl) ?_
        refine gf2_1 (r := 9) rfl k8 r8_1 (dk zX2_mayPass 20 rfl) ?_
        refine x_iload_n 1 rfl rfl (dk zX2_mayPass 21 rfl) ?_
        refine x_callV (as := [.int x1]) (o := 9) (ci := 5) (st := []) rfl okRX2_68 npX5_strikes ⟨Nat.le_of_ble_eq_true rfl, Nat.le_of_ble_eq_true rfl⟩ k9 (by decide) rfl (Nat.le_of_ble_eq_true rfl) (dk zX2_mayPass 22 rfl) ?_
        refine hc9f.mono ?_
        rintro _ m10 ⟨r11, rfl, hm10⟩
        show Ex E MX2_mayPass Q 47 [(0, .ref 8), (1, .int x1)] [.int r11] m10
        refine x_if_ne (tgt := 67) (by decide) (dk zX2_mayPass 23 rfl) (fun c12 => ?_) (fun c12 => ?_)
        · have hc12t := hm10.1 c12
          refine x_iconst (v := 1) (by decide) (dk zX2_mayPass 31 rfl) ?_
          refine x_goto (tgt := 72) (by decide) (dk zX2_mayPass 32 rfl) ?_
          exact x_iret rfl rfl (dk zX2_mayPass 34 rfl) hc12t
        · have hc12f := hm10.2 c12
          refine x_aload_n 0 rfl rfl (dk zX2_mayPass 24 rfl) ?_
          refine gf2_1 (r := 9) rfl k8 r8_1 (dk zX2_mayPass 25 rfl) ?_
          refine x_callV (as := []) (o := 9) (ci := 5) (st := []) rfl okRX2_29 npX5_size ⟨Nat.le_of_ble_eq_true rfl, Nat.le_of_ble_eq_true rfl⟩ k9 (by decide) rfl (Nat.le_of_ble_eq_true rfl) (dk zX2_mayPass 26 rfl) ?_
          refine hc12f.mono ?_
          rintro _ m13 ⟨r14, rfl, hm13⟩
          show Ex E MX2_mayPass Q 57 [(0, .ref 8), (1, .int x1)] [.int r14] m13
          refine x_aload_n 0 rfl rfl (dk zX2_mayPass 27 rfl) ?_
          refine gf2_0 (r := 1) rfl k8 r8_0 (dk zX2_mayPass 28 rfl) ?_
          refine x_callV (as := []) (o := 1) (ci := 3) (st := [.int r14]) rfl okRX2_71 npX3_roomTold ⟨Nat.le_of_ble_eq_true rfl, Nat.le_of_ble_eq_true rfl⟩ k1 (by decide) rfl (Nat.le_of_ble_eq_true rfl) (dk zX2_mayPass 29 rfl) ?_
          refine hm13.mono ?_
          rintro _ m15 ⟨r16, rfl, hm15⟩
          show Ex E MX2_mayPass Q 64 [(0, .ref 8), (1, .int x1)] [.int r16, .int r14] m15
          refine x_icmp_ge (tgt := 71) (by decide) (dk zX2_mayPass 30 rfl) (fun c17 => ?_) (fun c17 => ?_)
          · have hc17t := hm15.1 c17
            refine x_iconst (v := 0) (by decide) (dk zX2_mayPass 33 rfl) ?_
            exact x_iret rfl rfl (dk zX2_mayPass 34 rfl) hc17t
          · have hc17f := hm15.2 c17
            refine x_iconst (v := 1) (by decide) (dk zX2_mayPass 31 rfl) ?_
            refine x_goto (tgt := 72) (by decide) (dk zX2_mayPass 32 rfl) ?_
            exact x_iret rfl rfl (dk zX2_mayPass 34 rfl) hc17f
    · have hc6f := hm4.2 c6
      refine x_iconst (v := 0) (by decide) (dk zX2_mayPass 12 rfl) ?_
      exact x_iret rfl rfl (dk zX2_mayPass 13 rfl) hc6f
set_option maxRecDepth 20000 in
set_option maxHeartbeats 2000000 in
theorem gX2_pass_0 {E : EV} {Q : Po} {μ : Mem} {x1 : Int32} (h : Sp E MX3_to [.ref 1, .int x1] μ (fun v m1 => ∃ r2 : Int32, v = some (.int r2) ∧ Sp E MX3_isWatched [.ref 1, .int x1] (mI m1 8 3 r2) (fun v m3 => ∃ r4 : Int32, v = some (.int r4) ∧ ((¬ r4 = 0 → Sp E MX5_strikes [.ref 9, .int x1] m3 (fun v m6 => ∃ r7 : Int32, v = some (.int r7) ∧ ((r7 = 0 → Sp E MX5_stamp [.ref 9, .int x1] m6 (fun v m9 => v = none ∧ Sp E MX5_size [.ref 9] m9 (fun v m10 => ∃ r11 : Int32, v = some (.int r11) ∧ ∀ v12 : Int32, v12 = (if (m9.1 8 4) < r11 then r11 else (m9.1 8 4)) → Q none (mI m10 8 4 v12)))) ∧ (¬ r7 = 0 → ∀ v13 : Int32, v13 = (m6.1 8 5) + 1 → Sp E MX5_stamp [.ref 9, .int x1] (mI m6 8 5 v13) (fun v m14 => v = none ∧ Sp E MX5_size [.ref 9] m14 (fun v m15 => ∃ r16 : Int32, v = some (.int r16) ∧ ∀ v17 : Int32, v17 = (if (m14.1 8 4) < r16 then r16 else (m14.1 8 4)) → Q none (mI m15 8 4 v17))))))) ∧ (r4 = 0 → Q none m3))))) : Ex E MX2_pass Q 0 [(0, .ref 8), (1, .int x1)] [] μ := by
  refine x_aload_n 0 rfl rfl (dk zX2_pass 0 rfl) ?_
  refine x_aload_n 0 rfl rfl (dk zX2_pass 1 rfl) ?_
  refine gf2_0 (r := 1) rfl k8 r8_0 (dk zX2_pass 2 rfl) ?_
  refine x_iload_n 1 rfl rfl (dk zX2_pass 3 rfl) ?_
  refine x_callV (as := [.int x1]) (o := 1) (ci := 3) (st := [.ref 8]) rfl okRX2_74 npX3_to ⟨Nat.le_of_ble_eq_true rfl, Nat.le_of_ble_eq_true rfl⟩ k1 (by decide) rfl (Nat.le_of_ble_eq_true rfl) (dk zX2_pass 4 rfl) ?_
  refine h.mono ?_
  rintro _ m1 ⟨r2, rfl, hm1⟩
  show Ex E MX2_pass Q 9 [(0, .ref 8), (1, .int x1)] [.int r2, .ref 8] m1
  refine pf2_3 rfl k8 (dk zX2_pass 5 rfl) ?_
  refine x_aload_n 0 rfl rfl (dk zX2_pass 6 rfl) ?_
  refine gf2_0 (r := 1) rfl k8 r8_0 (dk zX2_pass 7 rfl) ?_
  refine x_iload_n 1 rfl rfl (dk zX2_pass 8 rfl) ?_
  refine x_callV (as := [.int x1]) (o := 1) (ci := 3) (st := []) rfl okRX2_65 npX3_isWatched ⟨Nat.le_of_ble_eq_true rfl, Nat.le_of_ble_eq_true rfl⟩ k1 (by decide) rfl (Nat.le_of_ble_eq_true rfl) (dk zX2_pass 9 rfl) ?_
  refine hm1.mono ?_
  rintro _ m3 ⟨r4, rfl, hm3⟩
  show Ex E MX2_pass Q 20 [(0, .ref 8), (1, .int x1)] [.int r4] m3
  refine x_if_ne (tgt := 24) (by decide) (dk zX2_pass 10 rfl) (fun c5 => ?_) (fun c5 => ?_)
  · have hc5t := hm3.1 c5
    refine x_aload_n 0 rfl rfl (dk zX2_pass 12 rfl) ?_
    refine gf2_1 (r := 9) rfl k8 r8_1 (dk zX2_pass 13 rfl) ?_
    refine x_iload_n 1 rfl rfl (dk zX2_pass 14 rfl) ?_
    refine x_callV (as := [.int x1]) (o := 9) (ci := 5) (st := []) rfl okRX2_68 npX5_strikes ⟨Nat.le_of_ble_eq_true rfl, Nat.le_of_ble_eq_true rfl⟩ k9 (by decide) rfl (Nat.le_of_ble_eq_true rfl) (dk zX2_pass 15 rfl) ?_
    refine hc5t.mono ?_
    rintro _ m6 ⟨r7, rfl, hm6⟩
    show Ex E MX2_pass Q 32 [(0, .ref 8), (1, .int x1)] [.int r7] m6
    refine x_if_eq (tgt := 45) (by decide) (dk zX2_pass 16 rfl) (fun c8 => ?_) (fun c8 => ?_)
    · have hc8t := hm6.1 c8
      refine x_aload_n 0 rfl rfl (dk zX2_pass 23 rfl) ?_
      refine gf2_1 (r := 9) rfl k8 r8_1 (dk zX2_pass 24 rfl) ?_
      refine x_iload_n 1 rfl rfl (dk zX2_pass 25 rfl) ?_
      refine x_callV (as := [.int x1]) (o := 9) (ci := 5) (st := []) rfl okRX2_77 npX5_stamp ⟨Nat.le_of_ble_eq_true rfl, Nat.le_of_ble_eq_true rfl⟩ k9 (by decide) rfl (Nat.le_of_ble_eq_true rfl) (dk zX2_pass 26 rfl) ?_
      refine hc8t.mono ?_
      rintro _ m9 ⟨rfl, hm9⟩
      show Ex E MX2_pass Q 53 [(0, .ref 8), (1, .int x1)] [] m9
      refine x_aload_n 0 rfl rfl (dk zX2_pass 27 rfl) ?_
      refine x_aload_n 0 rfl rfl (dk zX2_pass 28 rfl) ?_
      refine gf2_4 rfl k8 (dk zX2_pass 29 rfl) ?_
      refine x_aload_n 0 rfl rfl (dk zX2_pass 30 rfl) ?_
      refine gf2_1 (r := 9) rfl k8 r8_1 (dk zX2_pass 31 rfl) ?_
      refine x_callV (as := []) (o := 9) (ci := 5) (st := [.int (m9.1 8 4), .ref 8]) rfl okRX2_29 npX5_size ⟨Nat.le_of_ble_eq_true rfl, Nat.le_of_ble_eq_true rfl⟩ k9 (by decide) rfl (Nat.le_of_ble_eq_true rfl) (dk zX2_pass 32 rfl) ?_
      refine hm9.mono ?_
      rintro _ m10 ⟨r11, rfl, hm10⟩
      show Ex E MX2_pass Q 65 [(0, .ref 8), (1, .int x1)] [.int r11, .int (m9.1 8 4), .ref 8] m10
      refine x_mmax rfl wmRX2_80 wmmax_s wmi wmmax_c (Nat.le_of_ble_eq_true rfl) (Nat.le_of_ble_eq_true rfl) (dk zX2_pass 33 rfl) ?_
      refine x_topi (fun v12 ev12 => ?_)
      have hv12 := hm10 v12 ev12
      refine pf2_4 rfl k8 (dk zX2_pass 34 rfl) ?_
      exact x_vret rfl (dk zX2_pass 35 rfl) hv12
    · have hc8f := hm6.2 c8
      refine x_aload_n 0 rfl rfl (dk zX2_pass 17 rfl) ?_
      refine x_dupr (dk zX2_pass 18 rfl) ?_
      refine gf2_5 rfl k8 (dk zX2_pass 19 rfl) ?_
      refine x_iconst (v := 1) (by decide) (dk zX2_pass 20 rfl) ?_
      refine x_iadd (dk zX2_pass 21 rfl) ?_
      refine x_topi (fun v13 ev13 => ?_)
      have hv13 := hc8f v13 ev13
      refine pf2_5 rfl k8 (dk zX2_pass 22 rfl) ?_
      refine x_aload_n 0 rfl rfl (dk zX2_pass 23 rfl) ?_
      refine gf2_1 (r := 9) rfl k8 r8_1 (dk zX2_pass 24 rfl) ?_
      refine x_iload_n 1 rfl rfl (dk zX2_pass 25 rfl) ?_
      refine x_callV (as := [.int x1]) (o := 9) (ci := 5) (st := []) rfl okRX2_77 npX5_stamp ⟨Nat.le_of_ble_eq_true rfl, Nat.le_of_ble_eq_true rfl⟩ k9 (by decide) rfl (Nat.le_of_ble_eq_true rfl) (dk zX2_pass 26 rfl) ?_
      refine hv13.mono ?_
      rintro _ m14 ⟨rfl, hm14⟩
      show Ex E MX2_pass Q 53 [(0, .ref 8), (1, .int x1)] [] m14
      refine x_aload_n 0 rfl rfl (dk zX2_pass 27 rfl) ?_
      refine x_aload_n 0 rfl rfl (dk zX2_pass 28 rfl) ?_
      refine gf2_4 rfl k8 (dk zX2_pass 29 rfl) ?_
      refine x_aload_n 0 rfl rfl (dk zX2_pass 30 rfl) ?_
      refine gf2_1 (r := 9) rfl k8 r8_1 (dk zX2_pass 31 rfl) ?_
      refine x_callV (as := []) (o := 9) (ci := 5) (st := [.int (m14.1 8 4), .ref 8]) rfl okRX2_29 npX5_size ⟨Nat.le_of_ble_eq_true rfl, Nat.le_of_ble_eq_true rfl⟩ k9 (by decide) rfl (Nat.le_of_ble_eq_true rfl) (dk zX2_pass 32 rfl) ?_
      refine hm14.mono ?_
      rintro _ m15 ⟨r16, rfl, hm15⟩
      show Ex E MX2_pass Q 65 [(0, .ref 8), (1, .int x1)] [.int r16, .int (m14.1 8 4), .ref 8] m15
      refine x_mmax rfl wmRX2_80 wmmax_s wmi wmmax_c (Nat.le_of_ble_eq_true rfl) (Nat.le_of_ble_eq_true rfl) (dk zX2_pass 33 rfl) ?_
      refine x_topi (fun v17 ev17 => ?_)
      have hv17 := hm15 v17 ev17
      refine pf2_4 rfl k8 (dk zX2_pass 34 rfl) ?_
      exact x_vret rfl (dk zX2_pass 35 rfl) hv17
  · have hc5f := hm3.2 c5
    exact x_vret rfl (dk zX2_pass 11 rfl) hc5f
set_option maxRecDepth 20000 in
set_option maxHeartbeats 2000000 in
theorem gX2_follow_0 {E : EV} {Q : Po} {μ : Mem} {x1 : Nat} (hk1 : kd x1 = 8) (h : Ex E MX2_follow Q 2 [(0, .ref 8), (1, .ref x1), (2, .int 0)] [] μ) : Ex E MX2_follow Q 0 [(0, .ref 8), (1, .ref x1)] [] μ := by
  refine x_iconst (v := 0) (by decide) (dk zX2_follow 0 rfl) ?_
  refine x_istore_n (k := 2) (l' := [(0, .ref 8), (1, .ref x1), (2, .int 0)]) [1, 2, 0] rfl rfl (by decide) (dk zX2_follow 1 rfl) ?_
  exact h
set_option maxRecDepth 20000 in
set_option maxHeartbeats 2000000 in
theorem gX2_follow_2 {E : EV} {Q : Po} {μ : Mem} {x1 : Nat} {x2 : Int32} (hk_x1 : kd x1 = 8) (h : Sp E MX8_size [.ref x1] μ (fun v m1 => ∃ r2 : Int32, v = some (.int r2) ∧ ((r2 ≤ x2 → Q none m1) ∧ (¬ r2 ≤ x2 → Sp E MX8_at [.ref x1, .int x2] m1 (fun v m4 => ∃ r5 : Int32, v = some (.int r5) ∧ Sp E MX3_letterOf [.ref 1, .int r5] m4 (fun v m6 => ∃ r7 : Int32, v = some (.int r7) ∧ Sp E MX2_mayPass [.ref 8, .int r7] m6 (fun v m8 => ∃ r9 : Int32, v = some (.int r9) ∧ ((¬ r9 = 0 → Sp E MX2_pass [.ref 8, .int r7] m8 (fun v m11 => v = none ∧ ∀ v12 : Int32, v12 = x2 + 1 → Ex E MX2_follow Q 2 [(0, .ref 8), (1, .ref x1), (2, .int v12)] [] m11)) ∧ (r9 = 0 → Q none (mI m8 8 2 x2)))))))))) : Ex E MX2_follow Q 2 [(0, .ref 8), (1, .ref x1), (2, .int x2)] [] μ := by
  refine x_iload_n 2 rfl rfl (dk zX2_follow 2 rfl) ?_
  refine x_aload_n 1 rfl rfl (dk zX2_follow 3 rfl) ?_
  refine x_callV (as := []) (o := x1) (ci := 8) (st := [.int x2]) rfl okRX2_39 npX8_size ⟨Nat.le_of_ble_eq_true rfl, Nat.le_of_ble_eq_true rfl⟩ hk_x1 (by decide) rfl (Nat.le_of_ble_eq_true rfl) (dk zX2_follow 4 rfl) ?_
  refine h.mono ?_
  rintro _ m1 ⟨r2, rfl, hm1⟩
  show Ex E MX2_follow Q 7 [(0, .ref 8), (1, .ref x1), (2, .int x2)] [.int r2, .int x2] m1
  refine x_icmp_ge (tgt := 48) (by decide) (dk zX2_follow 5 rfl) (fun c3 => ?_) (fun c3 => ?_)
  · have hc3t := hm1.1 c3
    exact x_vret rfl (dk zX2_follow 26 rfl) hc3t
  · have hc3f := hm1.2 c3
    refine x_aload_n 0 rfl rfl (dk zX2_follow 6 rfl) ?_
    refine gf2_0 (r := 1) rfl k8 r8_0 (dk zX2_follow 7 rfl) ?_
    refine x_aload_n 1 rfl rfl (dk zX2_follow 8 rfl) ?_
    refine x_iload_n 2 rfl rfl (dk zX2_follow 9 rfl) ?_
    refine x_callV (as := [.int x2]) (o := x1) (ci := 8) (st := [.ref 1]) rfl okRX2_42 npX8_at ⟨Nat.le_of_ble_eq_true rfl, Nat.le_of_ble_eq_true rfl⟩ hk_x1 (by decide) rfl (Nat.le_of_ble_eq_true rfl) (dk zX2_follow 10 rfl) ?_
    refine hc3f.mono ?_
    rintro _ m4 ⟨r5, rfl, hm4⟩
    show Ex E MX2_follow Q 19 [(0, .ref 8), (1, .ref x1), (2, .int x2)] [.int r5, .ref 1] m4
    refine x_callV (as := [.int r5]) (o := 1) (ci := 3) (st := []) rfl okRX2_46 npX3_letterOf ⟨Nat.le_of_ble_eq_true rfl, Nat.le_of_ble_eq_true rfl⟩ k1 (by decide) rfl (Nat.le_of_ble_eq_true rfl) (dk zX2_follow 11 rfl) ?_
    refine hm4.mono ?_
    rintro _ m6 ⟨r7, rfl, hm6⟩
    show Ex E MX2_follow Q 22 [(0, .ref 8), (1, .ref x1), (2, .int x2)] [.int r7] m6
    refine x_istore_n (k := 3) (l' := [(0, .ref 8), (1, .ref x1), (2, .int x2), (3, .int r7)]) [1, 2, 3, 0] rfl rfl (by decide) (dk zX2_follow 12 rfl) ?_
    refine x_aload_n 0 rfl rfl (dk zX2_follow 13 rfl) ?_
    refine x_iload_n 3 rfl rfl (dk zX2_follow 14 rfl) ?_
    refine x_callV (as := [.int r7]) (o := 8) (ci := 2) (st := []) rfl okRX2_51 npX2_mayPass ⟨Nat.le_of_ble_eq_true rfl, Nat.le_of_ble_eq_true rfl⟩ k8 (by decide) rfl (Nat.le_of_ble_eq_true rfl) (dk zX2_follow 15 rfl) ?_
    refine hm6.mono ?_
    rintro _ m8 ⟨r9, rfl, hm8⟩
    show Ex E MX2_follow Q 28 [(0, .ref 8), (1, .ref x1), (2, .int x2), (3, .int r7)] [.int r9] m8
    refine x_if_ne (tgt := 37) (by decide) (dk zX2_follow 16 rfl) (fun c10 => ?_) (fun c10 => ?_)
    · have hc10t := hm8.1 c10
      refine x_aload_n 0 rfl rfl (dk zX2_follow 21 rfl) ?_
      refine x_iload_n 3 rfl rfl (dk zX2_follow 22 rfl) ?_
      refine x_callV (as := [.int r7]) (o := 8) (ci := 2) (st := []) rfl okRX2_55 npX2_pass ⟨Nat.le_of_ble_eq_true rfl, Nat.le_of_ble_eq_true rfl⟩ k8 (by decide) rfl (Nat.le_of_ble_eq_true rfl) (dk zX2_follow 23 rfl) ?_
      refine hc10t.mono ?_
      rintro _ m11 ⟨rfl, hm11⟩
      show Ex E MX2_follow Q 42 [(0, .ref 8), (1, .ref x1), (2, .int x2), (3, .int r7)] [] m11
      obtain ⟨v12, ev12⟩ : ∃ y : Int32, y = x2 + 1 := ⟨_, rfl⟩
      have hv12 := hm11 v12 ev12
      refine x_iinc (v := v12) (l' := [(0, .ref 8), (1, .ref x1), (2, .int v12), (3, .int r7)]) 2 rfl (by rw [ev12]; rfl) [1, 2, 0, 3] rfl (by decide) (dk zX2_follow 24 rfl) ?_
      refine x_goto (tgt := 2) (by decide) (dk zX2_follow 25 rfl) ?_
      exact x_sub [0, 1, 2] rfl hv12
    · have hc10f := hm8.2 c10
      refine x_aload_n 0 rfl rfl (dk zX2_follow 17 rfl) ?_
      refine x_iload_n 2 rfl rfl (dk zX2_follow 18 rfl) ?_
      refine pf2_2 rfl k8 (dk zX2_follow 19 rfl) ?_
      exact x_vret rfl (dk zX2_follow 20 rfl) hc10f
set_option maxRecDepth 20000 in
set_option maxHeartbeats 2000000 in
theorem gX2_verdict_0 {E : EV} {Q : Po} {μ : Mem} {x1 : Int32} (h : ((x1 = 0 → Q (some (.int (μ.1 8 2))) μ) ∧ ((x1 = 1 → Q (some (.int (μ.1 8 3))) μ) ∧ ((x1 = 2 → Q (some (.int (μ.1 8 4))) μ) ∧ ((x1 = 3 → Sp E MX5_size [.ref 9] μ (fun v m5 => ∃ r6 : Int32, v = some (.int r6) ∧ Q (some (.int r6)) m5)) ∧ (¬ x1 = 0 → ¬ x1 = 1 → ¬ x1 = 2 → ¬ x1 = 3 → Q (some (.int (μ.1 8 5))) μ)))))) : Ex E MX2_verdict Q 0 [(0, .ref 8), (1, .int x1)] [] μ := by
  refine x_iload_n 1 rfl rfl (dk zX2_verdict 0 rfl) ?_
  by_cases c1 : x1 = 0
  · have hc1 := h.1 c1
    refine x_tabIn (off := 31) (tgt := 32) (by rw [c1]; decide) (by rw [c1]; decide) (by rw [c1]; rfl) (by decide) (dk zX2_verdict 1 rfl) ?_
    refine x_aload_n 0 rfl rfl (dk zX2_verdict 2 rfl) ?_
    refine gf2_2 rfl k8 (dk zX2_verdict 3 rfl) ?_
    exact x_iret (ty := .int) rfl rfl (dk zX2_verdict 4 rfl) hc1
  by_cases c2 : x1 = 1
  · have hc2 := h.2.1 c2
    refine x_tabIn (off := 36) (tgt := 37) (by rw [c2]; decide) (by rw [c2]; decide) (by rw [c2]; rfl) (by decide) (dk zX2_verdict 1 rfl) ?_
    refine x_aload_n 0 rfl rfl (dk zX2_verdict 5 rfl) ?_
    refine gf2_3 rfl k8 (dk zX2_verdict 6 rfl) ?_
    exact x_iret (ty := .int) rfl rfl (dk zX2_verdict 7 rfl) hc2
  by_cases c3 : x1 = 2
  · have hc3 := h.2.2.1 c3
    refine x_tabIn (off := 41) (tgt := 42) (by rw [c3]; decide) (by rw [c3]; decide) (by rw [c3]; rfl) (by decide) (dk zX2_verdict 1 rfl) ?_
    refine x_aload_n 0 rfl rfl (dk zX2_verdict 8 rfl) ?_
    refine gf2_4 rfl k8 (dk zX2_verdict 9 rfl) ?_
    exact x_iret (ty := .int) rfl rfl (dk zX2_verdict 10 rfl) hc3
  by_cases c4 : x1 = 3
  · have hc4 := h.2.2.2.1 c4
    refine x_tabIn (off := 46) (tgt := 47) (by rw [c4]; decide) (by rw [c4]; decide) (by rw [c4]; rfl) (by decide) (dk zX2_verdict 1 rfl) ?_
    refine x_aload_n 0 rfl rfl (dk zX2_verdict 11 rfl) ?_
    refine gf2_1 (r := 9) rfl k8 r8_1 (dk zX2_verdict 12 rfl) ?_
    refine x_callV (as := []) (o := 9) (ci := 5) (st := []) rfl okRX2_29 npX5_size ⟨Nat.le_of_ble_eq_true rfl, Nat.le_of_ble_eq_true rfl⟩ k9 (by decide) rfl (Nat.le_of_ble_eq_true rfl) (dk zX2_verdict 13 rfl) ?_
    refine hc4.mono ?_
    rintro _ m5 ⟨r6, rfl, hm5⟩
    show Ex E MX2_verdict Q 54 [(0, .ref 8), (1, .int x1)] [.int r6] m5
    exact x_iret (ty := .int) rfl rfl (dk zX2_verdict 14 rfl) hm5
  have hd7 := h.2.2.2.2 c1 c2 c3 c4
  refine x_tabOut (tgt := 55) (by have := lv_neT (a := 0) c1 (by decide); have := lv_neT (a := 1) c2 (by decide); have := lv_neT (a := 2) c3 (by decide); have := lv_neT (a := 3) c4 (by decide); omega) (by decide) (dk zX2_verdict 1 rfl) ?_
  refine x_aload_n 0 rfl rfl (dk zX2_verdict 15 rfl) ?_
  refine gf2_5 rfl k8 (dk zX2_verdict 16 rfl) ?_
  exact x_iret (ty := .int) rfl rfl (dk zX2_verdict 17 rfl) hd7
set_option maxRecDepth 20000 in
set_option maxHeartbeats 2000000 in
theorem gX3_forget_0 {E : EV} {Q : Po} {μ : Mem}  (h : Q none (mI (mI (mI μ 1 1 0) 1 2 0) 1 4 11)) : Ex E MX3_forget Q 0 [(0, .ref 1)] [] μ := by
  refine x_aload_n 0 rfl rfl (dk zX3_forget 0 rfl) ?_
  refine x_iconst (v := 0) (by decide) (dk zX3_forget 1 rfl) ?_
  refine pf3_1 rfl k1 (dk zX3_forget 2 rfl) ?_
  refine x_aload_n 0 rfl rfl (dk zX3_forget 3 rfl) ?_
  refine x_iconst (v := 0) (by decide) (dk zX3_forget 4 rfl) ?_
  refine pf3_2 rfl k1 (dk zX3_forget 5 rfl) ?_
  refine x_aload_n 0 rfl rfl (dk zX3_forget 6 rfl) ?_
  refine x_bipush (v := 11) (by decide) (dk zX3_forget 7 rfl) ?_
  refine pf3_4 rfl k1 (dk zX3_forget 8 rfl) ?_
  exact x_vret rfl (dk zX3_forget 9 rfl) h
set_option maxRecDepth 20000 in
set_option maxHeartbeats 2000000 in
theorem gX3_isFigure_0 {E : EV} {Q : Po} {μ : Mem} {x0 : Int32} (h : ((x0 < 48 → Q (some (.int 0)) μ) ∧ (¬ x0 < 48 → ((57 < x0 → Q (some (.int 0)) μ) ∧ (¬ 57 < x0 → Q (some (.int 1)) μ))))) : Ex E MX3_isFigure Q 0 [(0, .int x0)] [] μ := by
  refine x_iload_n 0 rfl rfl (dk zX3_isFigure 0 rfl) ?_
  refine x_bipush (v := 48) (by decide) (dk zX3_isFigure 1 rfl) ?_
  refine x_icmp_lt (tgt := 16) (by decide) (dk zX3_isFigure 2 rfl) (fun c1 => ?_) (fun c1 => ?_)
  · have hc1t := h.1 c1
    refine x_iconst (v := 0) (by decide) (dk zX3_isFigure 8 rfl) ?_
    exact x_iret rfl rfl (dk zX3_isFigure 9 rfl) hc1t
  · have hc1f := h.2 c1
    refine x_iload_n 0 rfl rfl (dk zX3_isFigure 3 rfl) ?_
    refine x_bipush (v := 57) (by decide) (dk zX3_isFigure 4 rfl) ?_
    refine x_icmp_gt (tgt := 16) (by decide) (dk zX3_isFigure 5 rfl) (fun c2 => ?_) (fun c2 => ?_)
    · have hc2t := hc1f.1 c2
      refine x_iconst (v := 0) (by decide) (dk zX3_isFigure 8 rfl) ?_
      exact x_iret rfl rfl (dk zX3_isFigure 9 rfl) hc2t
    · have hc2f := hc1f.2 c2
      refine x_iconst (v := 1) (by decide) (dk zX3_isFigure 6 rfl) ?_
      refine x_goto (tgt := 17) (by decide) (dk zX3_isFigure 7 rfl) ?_
      exact x_iret rfl rfl (dk zX3_isFigure 9 rfl) hc2f
set_option maxRecDepth 20000 in
set_option maxHeartbeats 2000000 in
theorem gX3_takeRoom_0 {E : EV} {Q : Po} {μ : Mem} {x1 : Nat} {x2 : Int32} (hk1 : kd x1 = 8) (h : Sp E MX8_at [.ref x1, .int (x2 + 1)] μ (fun v m1 => ∃ r2 : Int32, v = some (.int r2) ∧ Sp E MX8_at [.ref x1, .int (x2 + 2)] m1 (fun v m3 => ∃ r4 : Int32, v = some (.int r4) ∧ Sp E MX3_isFigure [.int r2] m3 (fun v m5 => ∃ r6 : Int32, v = some (.int r6) ∧ ((¬ r6 = 0 → Sp E MX3_isFigure [.int r4] m5 (fun v m8 => ∃ r9 : Int32, v = some (.int r9) ∧ ((r9 = 0 → ∀ v11 : Int32, v11 = r2 - 48 → ((v11 < 1 → Q (some (.int ((x2 + 1) ^^^ ((-1))))) m8) ∧ (¬ v11 < 1 → ((v11 ≤ 11 → Sp E MX3_isFigure [.int r4] (mI m8 1 4 v11) (fun v m14 => ∃ r15 : Int32, v = some (.int r15) ∧ ((r15 = 0 → Q (some (.int (x2 + 2))) m14) ∧ (¬ r15 = 0 → Q (some (.int (x2 + 3))) m14)))) ∧ (¬ v11 ≤ 11 → Q (some (.int ((x2 + 1) ^^^ ((-1))))) m8))))) ∧ (¬ r9 = 0 → ∀ v17 : Int32, v17 = ((10 * (r2 - 48)) + r4) - 48 → ((v17 < 1 → Q (some (.int ((x2 + 1) ^^^ ((-1))))) m8) ∧ (¬ v17 < 1 → ((v17 ≤ 11 → Sp E MX3_isFigure [.int r4] (mI m8 1 4 v17) (fun v m20 => ∃ r21 : Int32, v = some (.int r21) ∧ ((r21 = 0 → Q (some (.int (x2 + 2))) m20) ∧ (¬ r21 = 0 → Q (some (.int (x2 + 3))) m20)))) ∧ (¬ v17 ≤ 11 → Q (some (.int ((x2 + 1) ^^^ ((-1))))) m8)))))))) ∧ (r6 = 0 → Q (some (.int ((x2 + 1) ^^^ ((-1))))) m5)))))) : Ex E MX3_takeRoom Q 0 [(0, .ref 1), (1, .ref x1), (2, .int x2)] [] μ := by
  refine x_aload_n 1 rfl rfl (dk zX3_takeRoom 0 rfl) ?_
  refine x_iload_n 2 rfl rfl (dk zX3_takeRoom 1 rfl) ?_
  refine x_iconst (v := 1) (by decide) (dk zX3_takeRoom 2 rfl) ?_
  refine x_iadd (dk zX3_takeRoom 3 rfl) ?_
  refine x_callV (as := [.int (x2 + 1)]) (o := x1) (ci := 8) (st := []) rfl okRX3_41 npX8_at ⟨Nat.le_of_ble_eq_true rfl, Nat.le_of_ble_eq_true rfl⟩ hk1 (by decide) rfl (Nat.le_of_ble_eq_true rfl) (dk zX3_takeRoom 4 rfl) ?_
  refine h.mono ?_
  rintro _ m1 ⟨r2, rfl, hm1⟩
  show Ex E MX3_takeRoom Q 7 [(0, .ref 1), (1, .ref x1), (2, .int x2)] [.int r2] m1
  refine x_istore_n (k := 3) (l' := [(0, .ref 1), (1, .ref x1), (2, .int x2), (3, .int r2)]) [1, 2, 3, 0] rfl rfl (by decide) (dk zX3_takeRoom 5 rfl) ?_
  refine x_aload_n 1 rfl rfl (dk zX3_takeRoom 6 rfl) ?_
  refine x_iload_n 2 rfl rfl (dk zX3_takeRoom 7 rfl) ?_
  refine x_iconst (v := 2) (by decide) (dk zX3_takeRoom 8 rfl) ?_
  refine x_iadd (dk zX3_takeRoom 9 rfl) ?_
  refine x_callV (as := [.int (x2 + 2)]) (o := x1) (ci := 8) (st := []) rfl okRX3_41 npX8_at ⟨Nat.le_of_ble_eq_true rfl, Nat.le_of_ble_eq_true rfl⟩ hk1 (by decide) rfl (Nat.le_of_ble_eq_true rfl) (dk zX3_takeRoom 10 rfl) ?_
  refine hm1.mono ?_
  rintro _ m3 ⟨r4, rfl, hm3⟩
  show Ex E MX3_takeRoom Q 15 [(0, .ref 1), (1, .ref x1), (2, .int x2), (3, .int r2)] [.int r4] m3
  refine x_istoreG (l' := [(0, .ref 1), (1, .ref x1), (2, .int x2), (3, .int r2), (4, .int r4)]) [1, 2, 3, 4, 0] rfl (by decide) (dk zX3_takeRoom 11 rfl) ?_
  refine x_iload_n 3 rfl rfl (dk zX3_takeRoom 12 rfl) ?_
  refine x_callS (as := [.int r2]) (st := []) rfl okRX3_56 npX3_isFigure ⟨Nat.le_of_ble_eq_true rfl, Nat.le_of_ble_eq_true rfl⟩ (Nat.le_of_ble_eq_true rfl) (dk zX3_takeRoom 13 rfl) ?_
  refine hm3.mono ?_
  rintro _ m5 ⟨r6, rfl, hm5⟩
  show Ex E MX3_takeRoom Q 21 [(0, .ref 1), (1, .ref x1), (2, .int x2), (3, .int r2), (4, .int r4)] [.int r6] m5
  refine x_if_ne (tgt := 30) (by decide) (dk zX3_takeRoom 14 rfl) (fun c7 => ?_) (fun c7 => ?_)
  · have hc7t := hm5.1 c7
    refine x_iload 4 rfl (dk zX3_takeRoom 21 rfl) ?_
    refine x_callS (as := [.int r4]) (st := []) rfl okRX3_56 npX3_isFigure ⟨Nat.le_of_ble_eq_true rfl, Nat.le_of_ble_eq_true rfl⟩ (Nat.le_of_ble_eq_true rfl) (dk zX3_takeRoom 22 rfl) ?_
    refine hc7t.mono ?_
    rintro _ m8 ⟨r9, rfl, hm8⟩
    show Ex E MX3_takeRoom Q 35 [(0, .ref 1), (1, .ref x1), (2, .int x2), (3, .int r2), (4, .int r4)] [.int r9] m8
    refine x_if_eq (tgt := 54) (by decide) (dk zX3_takeRoom 23 rfl) (fun c10 => ?_) (fun c10 => ?_)
    · have hc10t := hm8.1 c10
      refine x_iload_n 3 rfl rfl (dk zX3_takeRoom 34 rfl) ?_
      refine x_bipush (v := 48) (by decide) (dk zX3_takeRoom 35 rfl) ?_
      refine x_isub (dk zX3_takeRoom 36 rfl) ?_
      refine x_topi (fun v11 ev11 => ?_)
      have hv11 := hc10t v11 ev11
      refine x_istoreG (l' := [(0, .ref 1), (1, .ref x1), (2, .int x2), (3, .int r2), (4, .int r4), (5, .int v11)]) [1, 2, 3, 4, 5, 0] rfl (by decide) (dk zX3_takeRoom 37 rfl) ?_
      refine x_iload 5 rfl (dk zX3_takeRoom 38 rfl) ?_
      refine x_iconst (v := 1) (by decide) (dk zX3_takeRoom 39 rfl) ?_
      refine x_icmp_lt (tgt := 73) (by decide) (dk zX3_takeRoom 40 rfl) (fun c12 => ?_) (fun c12 => ?_)
      · have hc12t := hv11.1 c12
        refine x_iload_n 2 rfl rfl (dk zX3_takeRoom 44 rfl) ?_
        refine x_iconst (v := 1) (by decide) (dk zX3_takeRoom 45 rfl) ?_
        refine x_iadd (dk zX3_takeRoom 46 rfl) ?_
        refine x_iconst (v := -1) (by decide) (dk zX3_takeRoom 47 rfl) ?_
        refine x_ixor (dk zX3_takeRoom 48 rfl) ?_
        exact x_iret (ty := .int) rfl rfl (dk zX3_takeRoom 49 rfl) hc12t
      · have hc12f := hv11.2 c12
        refine x_iload 5 rfl (dk zX3_takeRoom 41 rfl) ?_
        refine x_bipush (v := 11) (by decide) (dk zX3_takeRoom 42 rfl) ?_
        refine x_icmp_le (tgt := 79) (by decide) (dk zX3_takeRoom 43 rfl) (fun c13 => ?_) (fun c13 => ?_)
        · have hc13t := hc12f.1 c13
          refine x_aload_n 0 rfl rfl (dk zX3_takeRoom 50 rfl) ?_
          refine x_iload 5 rfl (dk zX3_takeRoom 51 rfl) ?_
          refine pf3_4 rfl k1 (dk zX3_takeRoom 52 rfl) ?_
          refine x_iload 4 rfl (dk zX3_takeRoom 53 rfl) ?_
          refine x_callS (as := [.int r4]) (st := []) rfl okRX3_56 npX3_isFigure ⟨Nat.le_of_ble_eq_true rfl, Nat.le_of_ble_eq_true rfl⟩ (Nat.le_of_ble_eq_true rfl) (dk zX3_takeRoom 54 rfl) ?_
          refine hc13t.mono ?_
          rintro _ m14 ⟨r15, rfl, hm14⟩
          show Ex E MX3_takeRoom Q 90 [(0, .ref 1), (1, .ref x1), (2, .int x2), (3, .int r2), (4, .int r4), (5, .int v11)] [.int r15] m14
          refine x_if_eq (tgt := 99) (by decide) (dk zX3_takeRoom 55 rfl) (fun c16 => ?_) (fun c16 => ?_)
          · have hc16t := hm14.1 c16
            refine x_iload_n 2 rfl rfl (dk zX3_takeRoom 60 rfl) ?_
            refine x_iconst (v := 2) (by decide) (dk zX3_takeRoom 61 rfl) ?_
            refine x_iadd (dk zX3_takeRoom 62 rfl) ?_
            exact x_iret (ty := .int) rfl rfl (dk zX3_takeRoom 63 rfl) hc16t
          · have hc16f := hm14.2 c16
            refine x_iload_n 2 rfl rfl (dk zX3_takeRoom 56 rfl) ?_
            refine x_iconst (v := 3) (by decide) (dk zX3_takeRoom 57 rfl) ?_
            refine x_iadd (dk zX3_takeRoom 58 rfl) ?_
            refine x_goto (tgt := 102) (by decide) (dk zX3_takeRoom 59 rfl) ?_
            exact x_iret (ty := .int) rfl rfl (dk zX3_takeRoom 63 rfl) hc16f
        · have hc13f := hc12f.2 c13
          refine x_iload_n 2 rfl rfl (dk zX3_takeRoom 44 rfl) ?_
          refine x_iconst (v := 1) (by decide) (dk zX3_takeRoom 45 rfl) ?_
          refine x_iadd (dk zX3_takeRoom 46 rfl) ?_
          refine x_iconst (v := -1) (by decide) (dk zX3_takeRoom 47 rfl) ?_
          refine x_ixor (dk zX3_takeRoom 48 rfl) ?_
          exact x_iret (ty := .int) rfl rfl (dk zX3_takeRoom 49 rfl) hc13f
    · have hc10f := hm8.2 c10
      refine x_bipush (v := 10) (by decide) (dk zX3_takeRoom 24 rfl) ?_
      refine x_iload_n 3 rfl rfl (dk zX3_takeRoom 25 rfl) ?_
      refine x_bipush (v := 48) (by decide) (dk zX3_takeRoom 26 rfl) ?_
      refine x_isub (dk zX3_takeRoom 27 rfl) ?_
      refine x_imul (dk zX3_takeRoom 28 rfl) ?_
      refine x_iload 4 rfl (dk zX3_takeRoom 29 rfl) ?_
      refine x_iadd (dk zX3_takeRoom 30 rfl) ?_
      refine x_bipush (v := 48) (by decide) (dk zX3_takeRoom 31 rfl) ?_
      refine x_isub (dk zX3_takeRoom 32 rfl) ?_
      refine x_goto (tgt := 58) (by decide) (dk zX3_takeRoom 33 rfl) ?_
      refine x_topi (fun v17 ev17 => ?_)
      have hv17 := hc10f v17 ev17
      refine x_istoreG (l' := [(0, .ref 1), (1, .ref x1), (2, .int x2), (3, .int r2), (4, .int r4), (5, .int v17)]) [1, 2, 3, 4, 5, 0] rfl (by decide) (dk zX3_takeRoom 37 rfl) ?_
      refine x_iload 5 rfl (dk zX3_takeRoom 38 rfl) ?_
      refine x_iconst (v := 1) (by decide) (dk zX3_takeRoom 39 rfl) ?_
      refine x_icmp_lt (tgt := 73) (by decide) (dk zX3_takeRoom 40 rfl) (fun c18 => ?_) (fun c18 => ?_)
      · have hc18t := hv17.1 c18
        refine x_iload_n 2 rfl rfl (dk zX3_takeRoom 44 rfl) ?_
        refine x_iconst (v := 1) (by decide) (dk zX3_takeRoom 45 rfl) ?_
        refine x_iadd (dk zX3_takeRoom 46 rfl) ?_
        refine x_iconst (v := -1) (by decide) (dk zX3_takeRoom 47 rfl) ?_
        refine x_ixor (dk zX3_takeRoom 48 rfl) ?_
        exact x_iret (ty := .int) rfl rfl (dk zX3_takeRoom 49 rfl) hc18t
      · have hc18f := hv17.2 c18
        refine x_iload 5 rfl (dk zX3_takeRoom 41 rfl) ?_
        refine x_bipush (v := 11) (by decide) (dk zX3_takeRoom 42 rfl) ?_
        refine x_icmp_le (tgt := 79) (by decide) (dk zX3_takeRoom 43 rfl) (fun c19 => ?_) (fun c19 => ?_)
        · have hc19t := hc18f.1 c19
          refine x_aload_n 0 rfl rfl (dk zX3_takeRoom 50 rfl) ?_
          refine x_iload 5 rfl (dk zX3_takeRoom 51 rfl) ?_
          refine pf3_4 rfl k1 (dk zX3_takeRoom 52 rfl) ?_
          refine x_iload 4 rfl (dk zX3_takeRoom 53 rfl) ?_
          refine x_callS (as := [.int r4]) (st := []) rfl okRX3_56 npX3_isFigure ⟨Nat.le_of_ble_eq_true rfl, Nat.le_of_ble_eq_true rfl⟩ (Nat.le_of_ble_eq_true rfl) (dk zX3_takeRoom 54 rfl) ?_
          refine hc19t.mono ?_
          rintro _ m20 ⟨r21, rfl, hm20⟩
          show Ex E MX3_takeRoom Q 90 [(0, .ref 1), (1, .ref x1), (2, .int x2), (3, .int r2), (4, .int r4), (5, .int v17)] [.int r21] m20
          refine x_if_eq (tgt := 99) (by decide) (dk zX3_takeRoom 55 rfl) (fun c22 => ?_) (fun c22 => ?_)
          · have hc22t := hm20.1 c22
            refine x_iload_n 2 rfl rfl (dk zX3_takeRoom 60 rfl) ?_
            refine x_iconst (v := 2) (by decide) (dk zX3_takeRoom 61 rfl) ?_
            refine x_iadd (dk zX3_takeRoom 62 rfl) ?_
            exact x_iret (ty := .int) rfl rfl (dk zX3_takeRoom 63 rfl) hc22t
          · have hc22f := hm20.2 c22
            refine x_iload_n 2 rfl rfl (dk zX3_takeRoom 56 rfl) ?_
            refine x_iconst (v := 3) (by decide) (dk zX3_takeRoom 57 rfl) ?_
            refine x_iadd (dk zX3_takeRoom 58 rfl) ?_
            refine x_goto (tgt := 102) (by decide) (dk zX3_takeRoom 59 rfl) ?_
            exact x_iret (ty := .int) rfl rfl (dk zX3_takeRoom 63 rfl) hc22f
        · have hc19f := hc18f.2 c19
          refine x_iload_n 2 rfl rfl (dk zX3_takeRoom 44 rfl) ?_
          refine x_iconst (v := 1) (by decide) (dk zX3_takeRoom 45 rfl) ?_
          refine x_iadd (dk zX3_takeRoom 46 rfl) ?_
          refine x_iconst (v := -1) (by decide) (dk zX3_takeRoom 47 rfl) ?_
          refine x_ixor (dk zX3_takeRoom 48 rfl) ?_
          exact x_iret (ty := .int) rfl rfl (dk zX3_takeRoom 49 rfl) hc19f
  · have hc7f := hm5.2 c7
    refine x_iload_n 2 rfl rfl (dk zX3_takeRoom 15 rfl) ?_
    refine x_iconst (v := 1) (by decide) (dk zX3_takeRoom 16 rfl) ?_
    refine x_iadd (dk zX3_takeRoom 17 rfl) ?_
    refine x_iconst (v := -1) (by decide) (dk zX3_takeRoom 18 rfl) ?_
    refine x_ixor (dk zX3_takeRoom 19 rfl) ?_
    exact x_iret (ty := .int) rfl rfl (dk zX3_takeRoom 20 rfl) hc7f
set_option maxRecDepth 20000 in
set_option maxHeartbeats 2000000 in
theorem gX3_isTownByte_0 {E : EV} {Q : Po} {μ : Mem} {x0 : Int32} (h : ((x0 < 48 → Q (some (.int 0)) μ) ∧ (¬ x0 < 48 → ((55 < x0 → Q (some (.int 0)) μ) ∧ (¬ 55 < x0 → Q (some (.int 1)) μ))))) : Ex E MX3_isTownByte Q 0 [(0, .int x0)] [] μ := by
  refine x_iload_n 0 rfl rfl (dk zX3_isTownByte 0 rfl) ?_
  refine x_bipush (v := 48) (by decide) (dk zX3_isTownByte 1 rfl) ?_
  refine x_icmp_lt (tgt := 16) (by decide) (dk zX3_isTownByte 2 rfl) (fun c1 => ?_) (fun c1 => ?_)
  · have hc1t := h.1 c1
    refine x_iconst (v := 0) (by decide) (dk zX3_isTownByte 8 rfl) ?_
    exact x_iret rfl rfl (dk zX3_isTownByte 9 rfl) hc1t
  · have hc1f := h.2 c1
    refine x_iload_n 0 rfl rfl (dk zX3_isTownByte 3 rfl) ?_
    refine x_bipush (v := 55) (by decide) (dk zX3_isTownByte 4 rfl) ?_
    refine x_icmp_gt (tgt := 16) (by decide) (dk zX3_isTownByte 5 rfl) (fun c2 => ?_) (fun c2 => ?_)
    · have hc2t := hc1f.1 c2
      refine x_iconst (v := 0) (by decide) (dk zX3_isTownByte 8 rfl) ?_
      exact x_iret rfl rfl (dk zX3_isTownByte 9 rfl) hc2t
    · have hc2f := hc1f.2 c2
      refine x_iconst (v := 1) (by decide) (dk zX3_isTownByte 6 rfl) ?_
      refine x_goto (tgt := 17) (by decide) (dk zX3_isTownByte 7 rfl) ?_
      exact x_iret rfl rfl (dk zX3_isTownByte 9 rfl) hc2f
set_option maxRecDepth 20000 in
set_option maxHeartbeats 2000000 in
theorem gX3_takeGate_0 {E : EV} {Q : Po} {μ : Mem} {x1 : Nat} {x2 : Int32} (hk1 : kd x1 = 8) (h : Sp E MX8_at [.ref x1, .int x2] μ (fun v m1 => ∃ r2 : Int32, v = some (.int r2) ∧ Sp E MX3_isTownByte [.int r2] m1 (fun v m3 => ∃ r4 : Int32, v = some (.int r4) ∧ ((r4 = 0 → Q (some (.int (x2 ^^^ ((-1))))) m3) ∧ (¬ r4 = 0 → (((m3.1 1 1) < 9 → Sp E MX8_at [.ref x1, .int (x2 + 1)] m3 (fun v m7 => ∃ r8 : Int32, v = some (.int r8) ∧ Sp E MX3_isTownByte [.int r8] m7 (fun v m9 => ∃ r10 : Int32, v = some (.int r10) ∧ ((¬ r10 = 0 → Sp E MX8_at [.ref x1, .int x2] m9 (fun v m12 => ∃ r13 : Int32, v = some (.int r13) ∧ ∀ v14 : Int32, v14 = r13 - 48 → vp_in (2 * (m9.1 1 1)) 18 ∧ (Sp E MX8_at [.ref x1, .int (x2 + 1)] (mI m12 2 ((2 * (m9.1 1 1)).toNatClampNeg) v14) (fun v m16 => ∃ r17 : Int32, v = some (.int r17) ∧ ∀ v18 : Int32, v18 = r17 - 48 → vp_in ((2 * ((mI m12 2 ((2 * (m9.1 1 1)).toNatClampNeg) v14).1 1 1)) + 1) 18 ∧ (Sp E MX8_at [.ref x1, .int (x2 + 2)] (mI m16 2 (((2 * ((mI m12 2 ((2 * (m9.1 1 1)).toNatClampNeg) v14).1 1 1)) + 1).toNatClampNeg) v18) (fun v m20 => ∃ r21 : Int32, v = some (.int r21) ∧ ((¬ r21 = 117 → ∀ v23 : Int32, v23 = (m20.1 1 2) ||| (1 <<< (((m20.1 1 1) : Int32) &&& 31)) → ∀ v24 : Int32, v24 = ((mI m20 1 2 v23).1 1 1) + 1 → Q (some (.int (x2 + 2))) (mI (mI m20 1 2 v23) 1 1 v24)) ∧ (r21 = 117 → ∀ v25 : Int32, v25 = (m20.1 1 1) + 1 → Q (some (.int (x2 + 3))) (mI m20 1 1 v25))))))))) ∧ (r10 = 0 → Q (some (.int ((x2 + 1) ^^^ ((-1))))) m9))))) ∧ (¬ (m3.1 1 1) < 9 → Q (some (.int (x2 ^^^ ((-1))))) m3))))))) : Ex E MX3_takeGate Q 0 [(0, .ref 1), (1, .ref x1), (2, .int x2)] [] μ := by
  refine x_aload_n 1 rfl rfl (dk zX3_takeGate 0 rfl) ?_
  refine x_iload_n 2 rfl rfl (dk zX3_takeGate 1 rfl) ?_
  refine x_callV (as := [.int x2]) (o := x1) (ci := 8) (st := []) rfl okRX3_41 npX8_at ⟨Nat.le_of_ble_eq_true rfl, Nat.le_of_ble_eq_true rfl⟩ hk1 (by decide) rfl (Nat.le_of_ble_eq_true rfl) (dk zX3_takeGate 2 rfl) ?_
  refine h.mono ?_
  rintro _ m1 ⟨r2, rfl, hm1⟩
  show Ex E MX3_takeGate Q 5 [(0, .ref 1), (1, .ref x1), (2, .int x2)] [.int r2] m1
  refine x_callS (as := [.int r2]) (st := []) rfl okRX3_52 npX3_isTownByte ⟨Nat.le_of_ble_eq_true rfl, Nat.le_of_ble_eq_true rfl⟩ (Nat.le_of_ble_eq_true rfl) (dk zX3_takeGate 3 rfl) ?_
  refine hm1.mono ?_
  rintro _ m3 ⟨r4, rfl, hm3⟩
  show Ex E MX3_takeGate Q 8 [(0, .ref 1), (1, .ref x1), (2, .int x2)] [.int r4] m3
  refine x_if_eq (tgt := 20) (by decide) (dk zX3_takeGate 4 rfl) (fun c5 => ?_) (fun c5 => ?_)
  · have hc5t := hm3.1 c5
    refine x_iload_n 2 rfl rfl (dk zX3_takeGate 9 rfl) ?_
    refine x_iconst (v := -1) (by decide) (dk zX3_takeGate 10 rfl) ?_
    refine x_ixor (dk zX3_takeGate 11 rfl) ?_
    exact x_iret (ty := .int) rfl rfl (dk zX3_takeGate 12 rfl) hc5t
  · have hc5f := hm3.2 c5
    refine x_aload_n 0 rfl rfl (dk zX3_takeGate 5 rfl) ?_
    refine gf3_1 rfl k1 (dk zX3_takeGate 6 rfl) ?_
    refine x_bipush (v := 9) (by decide) (dk zX3_takeGate 7 rfl) ?_
    refine x_icmp_lt (tgt := 24) (by decide) (dk zX3_takeGate 8 rfl) (fun c6 => ?_) (fun c6 => ?_)
    · have hc6t := hc5f.1 c6
      refine x_aload_n 1 rfl rfl (dk zX3_takeGate 13 rfl) ?_
      refine x_iload_n 2 rfl rfl (dk zX3_takeGate 14 rfl) ?_
      refine x_iconst (v := 1) (by decide) (dk zX3_takeGate 15 rfl) ?_
      refine x_iadd (dk zX3_takeGate 16 rfl) ?_
      refine x_callV (as := [.int (x2 + 1)]) (o := x1) (ci := 8) (st := []) rfl okRX3_41 npX8_at ⟨Nat.le_of_ble_eq_true rfl, Nat.le_of_ble_eq_true rfl⟩ hk1 (by decide) rfl (Nat.le_of_ble_eq_true rfl) (dk zX3_takeGate 17 rfl) ?_
      refine hc6t.mono ?_
      rintro _ m7 ⟨r8, rfl, hm7⟩
      show Ex E MX3_takeGate Q 31 [(0, .ref 1), (1, .ref x1), (2, .int x2)] [.int r8] m7
      refine x_callS (as := [.int r8]) (st := []) rfl okRX3_52 npX3_isTownByte ⟨Nat.le_of_ble_eq_true rfl, Nat.le_of_ble_eq_true rfl⟩ (Nat.le_of_ble_eq_true rfl) (dk zX3_takeGate 18 rfl) ?_
      refine hm7.mono ?_
      rintro _ m9 ⟨r10, rfl, hm9⟩
      show Ex E MX3_takeGate Q 34 [(0, .ref 1), (1, .ref x1), (2, .int x2)] [.int r10] m9
      refine x_if_ne (tgt := 43) (by decide) (dk zX3_takeGate 19 rfl) (fun c11 => ?_) (fun c11 => ?_)
      · have hc11t := hm9.1 c11
        refine x_aload_n 0 rfl rfl (dk zX3_takeGate 26 rfl) ?_
        refine gf3_0 (r := 2) rfl k1 r1_0 (dk zX3_takeGate 27 rfl) ?_
        refine x_iconst (v := 2) (by decide) (dk zX3_takeGate 28 rfl) ?_
        refine x_aload_n 0 rfl rfl (dk zX3_takeGate 29 rfl) ?_
        refine gf3_1 rfl k1 (dk zX3_takeGate 30 rfl) ?_
        refine x_imul (dk zX3_takeGate 31 rfl) ?_
        refine x_aload_n 1 rfl rfl (dk zX3_takeGate 32 rfl) ?_
        refine x_iload_n 2 rfl rfl (dk zX3_takeGate 33 rfl) ?_
        refine x_callV (as := [.int x2]) (o := x1) (ci := 8) (st := [.int (2 * (m9.1 1 1)), .ref 2]) rfl okRX3_41 npX8_at ⟨Nat.le_of_ble_eq_true rfl, Nat.le_of_ble_eq_true rfl⟩ hk1 (by decide) rfl (Nat.le_of_ble_eq_true rfl) (dk zX3_takeGate 34 rfl) ?_
        refine hc11t.mono ?_
        rintro _ m12 ⟨r13, rfl, hm12⟩
        show Ex E MX3_takeGate Q 58 [(0, .ref 1), (1, .ref x1), (2, .int x2)] [.int r13, .int (2 * (m9.1 1 1)), .ref 2] m12
        refine x_bipush (v := 48) (by decide) (dk zX3_takeGate 35 rfl) ?_
        refine x_isub (dk zX3_takeGate 36 rfl) ?_
        refine x_topi (fun v14 ev14 => ?_)
        have hv14 := hm12 v14 ev14
        have b15 := hv14.1
        have hb15 := hv14.2
        refine y_iast (j := (2 * (m9.1 1 1)).toNatClampNeg) k2 l2 b15 rfl (dk zX3_takeGate 37 rfl) ?_
        refine x_aload_n 0 rfl rfl (dk zX3_takeGate 38 rfl) ?_
        refine gf3_0 (r := 2) rfl k1 r1_0 (dk zX3_takeGate 39 rfl) ?_
        refine x_iconst (v := 2) (by decide) (dk zX3_takeGate 40 rfl) ?_
        refine x_aload_n 0 rfl rfl (dk zX3_takeGate 41 rfl) ?_
        refine gf3_1 rfl k1 (dk zX3_takeGate 42 rfl) ?_
        refine x_imul (dk zX3_takeGate 43 rfl) ?_
        refine x_iconst (v := 1) (by decide) (dk zX3_takeGate 44 rfl) ?_
        refine x_iadd (dk zX3_takeGate 45 rfl) ?_
        refine x_aload_n 1 rfl rfl (dk zX3_takeGate 46 rfl) ?_
        refine x_iload_n 2 rfl rfl (dk zX3_takeGate 47 rfl) ?_
        refine x_iconst (v := 1) (by decide) (dk zX3_takeGate 48 rfl) ?_
        refine x_iadd (dk zX3_takeGate 49 rfl) ?_
        refine x_callV (as := [.int (x2 + 1)]) (o := x1) (ci := 8) (st := [.int ((2 * ((mI m12 2 ((2 * (m9.1 1 1)).toNatClampNeg) v14).1 1 1)) + 1), .ref 2]) rfl okRX3_41 npX8_at ⟨Nat.le_of_ble_eq_true rfl, Nat.le_of_ble_eq_true rfl⟩ hk1 (by decide) rfl (Nat.le_of_ble_eq_true rfl) (dk zX3_takeGate 50 rfl) ?_
        refine hb15.mono ?_
        rintro _ m16 ⟨r17, rfl, hm16⟩
        show Ex E MX3_takeGate Q 81 [(0, .ref 1), (1, .ref x1), (2, .int x2)] [.int r17, .int ((2 * ((mI m12 2 ((2 * (m9.1 1 1)).toNatClampNeg) v14).1 1 1)) + 1), .ref 2] m16
        refine x_bipush (v := 48) (by decide) (dk zX3_takeGate 51 rfl) ?_
        refine x_isub (dk zX3_takeGate 52 rfl) ?_
        refine x_topi (fun v18 ev18 => ?_)
        have hv18 := hm16 v18 ev18
        have b19 := hv18.1
        have hb19 := hv18.2
        refine y_iast (j := ((2 * ((mI m12 2 ((2 * (m9.1 1 1)).toNatClampNeg) v14).1 1 1)) + 1).toNatClampNeg) k2 l2 b19 rfl (dk zX3_takeGate 53 rfl) ?_
        refine x_aload_n 1 rfl rfl (dk zX3_takeGate 54 rfl) ?_
        refine x_iload_n 2 rfl rfl (dk zX3_takeGate 55 rfl) ?_
        refine x_iconst (v := 2) (by decide) (dk zX3_takeGate 56 rfl) ?_
        refine x_iadd (dk zX3_takeGate 57 rfl) ?_
        refine x_callV (as := [.int (x2 + 2)]) (o := x1) (ci := 8) (st := []) rfl okRX3_41 npX8_at ⟨Nat.le_of_ble_eq_true rfl, Nat.le_of_ble_eq_true rfl⟩ hk1 (by decide) rfl (Nat.le_of_ble_eq_true rfl) (dk zX3_takeGate 58 rfl) ?_
        refine hb19.mono ?_
        rintro _ m20 ⟨r21, rfl, hm20⟩
        show Ex E MX3_takeGate Q 92 [(0, .ref 1), (1, .ref x1), (2, .int x2)] [.int r21] m20
        refine x_bipush (v := 117) (by decide) (dk zX3_takeGate 59 rfl) ?_
        refine x_icmp_ne (tgt := 101) (by decide) (dk zX3_takeGate 60 rfl) (fun c22 => ?_) (fun c22 => ?_)
        · have hc22t := hm20.1 c22
          refine x_iconst (v := 0) (by decide) (dk zX3_takeGate 63 rfl) ?_
          refine x_istore_n (k := 3) (l' := [(0, .ref 1), (1, .ref x1), (2, .int x2), (3, .int 0)]) [1, 2, 3, 0] rfl rfl (by decide) (dk zX3_takeGate 64 rfl) ?_
          refine x_iload_n 3 rfl rfl (dk zX3_takeGate 65 rfl) ?_
          refine x_if_ne (tgt := 122) (by decide) (dk zX3_takeGate 66 rfl) (fun c => absurd c (by decide)) (fun _ => ?_)
          refine x_aload_n 0 rfl rfl (dk zX3_takeGate 67 rfl) ?_
          refine x_dupr (dk zX3_takeGate 68 rfl) ?_
          refine gf3_2 rfl k1 (dk zX3_takeGate 69 rfl) ?_
          refine x_iconst (v := 1) (by decide) (dk zX3_takeGate 70 rfl) ?_
          refine x_aload_n 0 rfl rfl (dk zX3_takeGate 71 rfl) ?_
          refine gf3_1 rfl k1 (dk zX3_takeGate 72 rfl) ?_
          refine x_ishl (dk zX3_takeGate 73 rfl) ?_
          refine x_ior (dk zX3_takeGate 74 rfl) ?_
          refine x_topi (fun v23 ev23 => ?_)
          have hv23 := hc22t v23 ev23
          refine pf3_2 rfl k1 (dk zX3_takeGate 75 rfl) ?_
          refine x_aload_n 0 rfl rfl (dk zX3_takeGate 76 rfl) ?_
          refine x_dupr (dk zX3_takeGate 77 rfl) ?_
          refine gf3_1 rfl k1 (dk zX3_takeGate 78 rfl) ?_
          refine x_iconst (v := 1) (by decide) (dk zX3_takeGate 79 rfl) ?_
          refine x_iadd (dk zX3_takeGate 80 rfl) ?_
          refine x_topi (fun v24 ev24 => ?_)
          have hv24 := hv23 v24 ev24
          refine pf3_1 rfl k1 (dk zX3_takeGate 81 rfl) ?_
          refine x_iload_n 3 rfl rfl (dk zX3_takeGate 82 rfl) ?_
          refine x_if_eq (tgt := 142) (by decide) (dk zX3_takeGate 83 rfl) (fun _ => ?_) (fun c => absurd c (by decide))
          refine x_iload_n 2 rfl rfl (dk zX3_takeGate 88 rfl) ?_
          refine x_iconst (v := 2) (by decide) (dk zX3_takeGate 89 rfl) ?_
          refine x_iadd (dk zX3_takeGate 90 rfl) ?_
          exact x_iret (ty := .int) rfl rfl (dk zX3_takeGate 91 rfl) hv24
        · have hc22f := hm20.2 c22
          refine x_iconst (v := 1) (by decide) (dk zX3_takeGate 61 rfl) ?_
          refine x_goto (tgt := 102) (by decide) (dk zX3_takeGate 62 rfl) ?_
          refine x_istore_n (k := 3) (l' := [(0, .ref 1), (1, .ref x1), (2, .int x2), (3, .int 1)]) [1, 2, 3, 0] rfl rfl (by decide) (dk zX3_takeGate 64 rfl) ?_
          refine x_iload_n 3 rfl rfl (dk zX3_takeGate 65 rfl) ?_
          refine x_if_ne (tgt := 122) (by decide) (dk zX3_takeGate 66 rfl) (fun _ => ?_) (fun c => absurd c (by decide))
          refine x_aload_n 0 rfl rfl (dk zX3_takeGate 76 rfl) ?_
          refine x_dupr (dk zX3_takeGate 77 rfl) ?_
          refine gf3_1 rfl k1 (dk zX3_takeGate 78 rfl) ?_
          refine x_iconst (v := 1) (by decide) (dk zX3_takeGate 79 rfl) ?_
          refine x_iadd (dk zX3_takeGate 80 rfl) ?_
          refine x_topi (fun v25 ev25 => ?_)
          have hv25 := hc22f v25 ev25
          refine pf3_1 rfl k1 (dk zX3_takeGate 81 rfl) ?_
          refine x_iload_n 3 rfl rfl (dk zX3_takeGate 82 rfl) ?_
          refine x_if_eq (tgt := 142) (by decide) (dk zX3_takeGate 83 rfl) (fun c => absurd c (by decide)) (fun _ => ?_)
          refine x_iload_n 2 rfl rfl (dk zX3_takeGate 84 rfl) ?_
          refine x_iconst (v := 3) (by decide) (dk zX3_takeGate 85 rfl) ?_
          refine x_iadd (dk zX3_takeGate 86 rfl) ?_
          refine x_goto (tgt := 145) (by decide) (dk zX3_takeGate 87 rfl) ?_
          exact x_iret (ty := .int) rfl rfl (dk zX3_takeGate 91 rfl) hv25
      · have hc11f := hm9.2 c11
        refine x_iload_n 2 rfl rfl (dk zX3_takeGate 20 rfl) ?_
        refine x_iconst (v := 1) (by decide) (dk zX3_takeGate 21 rfl) ?_
        refine x_iadd (dk zX3_takeGate 22 rfl) ?_
        refine x_iconst (v := -1) (by decide) (dk zX3_takeGate 23 rfl) ?_
        refine x_ixor (dk zX3_takeGate 24 rfl) ?_
        exact x_iret (ty := .int) rfl rfl (dk zX3_takeGate 25 rfl) hc11f
    · have hc6f := hc5f.2 c6
      refine x_iload_n 2 rfl rfl (dk zX3_takeGate 9 rfl) ?_
      refine x_iconst (v := -1) (by decide) (dk zX3_takeGate 10 rfl) ?_
      refine x_ixor (dk zX3_takeGate 11 rfl) ?_
      exact x_iret (ty := .int) rfl rfl (dk zX3_takeGate 12 rfl) hc6f
set_option maxRecDepth 20000 in
set_option maxHeartbeats 2000000 in
theorem gX3_faultOf_0 {E : EV} {Q : Po} {μ : Mem} {x1 : Nat} (hk1 : kd x1 = 8) (h : Ex E MX3_faultOf Q 4 [(0, .ref 1), (1, .ref x1), (2, .int 0), (3, .int 0)] [] μ) : Ex E MX3_faultOf Q 0 [(0, .ref 1), (1, .ref x1)] [] μ := by
  refine x_iconst (v := 0) (by decide) (dk zX3_faultOf 0 rfl) ?_
  refine x_istore_n (k := 2) (l' := [(0, .ref 1), (1, .ref x1), (2, .int 0)]) [1, 2, 0] rfl rfl (by decide) (dk zX3_faultOf 1 rfl) ?_
  refine x_iconst (v := 0) (by decide) (dk zX3_faultOf 2 rfl) ?_
  refine x_istore_n (k := 3) (l' := [(0, .ref 1), (1, .ref x1), (2, .int 0), (3, .int 0)]) [1, 2, 3, 0] rfl rfl (by decide) (dk zX3_faultOf 3 rfl) ?_
  exact h
set_option maxRecDepth 20000 in
set_option maxHeartbeats 2000000 in
theorem gX3_faultOf_4 {E : EV} {Q : Po} {μ : Mem} {x1 : Nat} {x2 : Int32} {x3 : Int32} (hk_x1 : kd x1 = 8) (h : ((50 ≤ x3 → Q (some (.int x2)) μ) ∧ (¬ 50 ≤ x3 → Sp E MX8_at [.ref x1, .int x2] μ (fun v m2 => ∃ r3 : Int32, v = some (.int r3) ∧ ((¬ r3 = 114 → Sp E MX3_takeGate [.ref 1, .ref x1, .int x2] m2 (fun v m5 => ∃ r6 : Int32, v = some (.int r6) ∧ ((0 ≤ r6 → Sp E MX8_size [.ref x1] m5 (fun v m8 => ∃ r9 : Int32, v = some (.int r9) ∧ ((¬ r6 = r9 → Sp E MX8_at [.ref x1, .int r6] m8 (fun v m11 => ∃ r12 : Int32, v = some (.int r12) ∧ ((r12 = 59 → ∀ v14 : Int32, v14 = r6 + 1 → ∀ v15 : Int32, v15 = x3 + 1 → Ex E MX3_faultOf Q 4 [(0, .ref 1), (1, .ref x1), (2, .int v14), (3, .int v15)] [] m11) ∧ (¬ r12 = 59 → Q (some (.int r6)) m11)))) ∧ (r6 = r9 → Q (some (.int ((-1)))) m8)))) ∧ (¬ 0 ≤ r6 → Q (some (.int (r6 ^^^ ((-1))))) m5)))) ∧ (r3 = 114 → Sp E MX3_takeRoom [.ref 1, .ref x1, .int x2] m2 (fun v m16 => ∃ r17 : Int32, v = some (.int r17) ∧ ((0 ≤ r17 → Sp E MX8_size [.ref x1] m16 (fun v m19 => ∃ r20 : Int32, v = some (.int r20) ∧ ((¬ r17 = r20 → Sp E MX8_at [.ref x1, .int r17] m19 (fun v m22 => ∃ r23 : Int32, v = some (.int r23) ∧ ((r23 = 59 → ∀ v25 : Int32, v25 = r17 + 1 → ∀ v26 : Int32, v26 = x3 + 1 → Ex E MX3_faultOf Q 4 [(0, .ref 1), (1, .ref x1), (2, .int v25), (3, .int v26)] [] m22) ∧ (¬ r23 = 59 → Q (some (.int r17)) m22)))) ∧ (r17 = r20 → Q (some (.int ((-1)))) m19)))) ∧ (¬ 0 ≤ r17 → Q (some (.int (r17 ^^^ ((-1))))) m16))))))))) : Ex E MX3_faultOf Q 4 [(0, .ref 1), (1, .ref x1), (2, .int x2), (3, .int x3)] [] μ := by
  refine x_iload_n 3 rfl rfl (dk zX3_faultOf 4 rfl) ?_
  refine x_bipush (v := 50) (by decide) (dk zX3_faultOf 5 rfl) ?_
  refine x_icmp_ge (tgt := 83) (by decide) (dk zX3_faultOf 6 rfl) (fun c1 => ?_) (fun c1 => ?_)
  · have hc1t := h.1 c1
    refine x_iload_n 2 rfl rfl (dk zX3_faultOf 47 rfl) ?_
    exact x_iret (ty := .int) rfl rfl (dk zX3_faultOf 48 rfl) hc1t
  · have hc1f := h.2 c1
    refine x_aload_n 1 rfl rfl (dk zX3_faultOf 7 rfl) ?_
    refine x_iload_n 2 rfl rfl (dk zX3_faultOf 8 rfl) ?_
    refine x_callV (as := [.int x2]) (o := x1) (ci := 8) (st := []) rfl okRX3_41 npX8_at ⟨Nat.le_of_ble_eq_true rfl, Nat.le_of_ble_eq_true rfl⟩ hk_x1 (by decide) rfl (Nat.le_of_ble_eq_true rfl) (dk zX3_faultOf 9 rfl) ?_
    refine hc1f.mono ?_
    rintro _ m2 ⟨r3, rfl, hm2⟩
    show Ex E MX3_faultOf Q 15 [(0, .ref 1), (1, .ref x1), (2, .int x2), (3, .int x3)] [.int r3] m2
    refine x_bipush (v := 114) (by decide) (dk zX3_faultOf 10 rfl) ?_
    refine x_icmp_ne (tgt := 29) (by decide) (dk zX3_faultOf 11 rfl) (fun c4 => ?_) (fun c4 => ?_)
    · have hc4t := hm2.1 c4
      refine x_aload_n 0 rfl rfl (dk zX3_faultOf 17 rfl) ?_
      refine x_aload_n 1 rfl rfl (dk zX3_faultOf 18 rfl) ?_
      refine x_iload_n 2 rfl rfl (dk zX3_faultOf 19 rfl) ?_
      refine x_callV (as := [.ref x1, .int x2]) (o := 1) (ci := 3) (st := []) rfl okRX3_49 npX3_takeGate ⟨Nat.le_of_ble_eq_true rfl, Nat.le_of_ble_eq_true rfl⟩ k1 (by decide) rfl (Nat.le_of_ble_eq_true rfl) (dk zX3_faultOf 20 rfl) ?_
      refine hc4t.mono ?_
      rintro _ m5 ⟨r6, rfl, hm5⟩
      show Ex E MX3_faultOf Q 35 [(0, .ref 1), (1, .ref x1), (2, .int x2), (3, .int x3)] [.int r6] m5
      refine x_istoreG (l' := [(0, .ref 1), (1, .ref x1), (2, .int x2), (3, .int x3), (4, .int r6)]) [1, 2, 3, 4, 0] rfl (by decide) (dk zX3_faultOf 21 rfl) ?_
      refine x_iload 4 rfl (dk zX3_faultOf 22 rfl) ?_
      refine x_if_ge (tgt := 47) (by decide) (dk zX3_faultOf 23 rfl) (fun c7 => ?_) (fun c7 => ?_)
      · have hc7t := hm5.1 c7
        refine x_iload 4 rfl (dk zX3_faultOf 28 rfl) ?_
        refine x_aload_n 1 rfl rfl (dk zX3_faultOf 29 rfl) ?_
        refine x_callV (as := []) (o := x1) (ci := 8) (st := [.int r6]) rfl okRX3_25 npX8_size ⟨Nat.le_of_ble_eq_true rfl, Nat.le_of_ble_eq_true rfl⟩ hk_x1 (by decide) rfl (Nat.le_of_ble_eq_true rfl) (dk zX3_faultOf 30 rfl) ?_
        refine hc7t.mono ?_
        rintro _ m8 ⟨r9, rfl, hm8⟩
        show Ex E MX3_faultOf Q 53 [(0, .ref 1), (1, .ref x1), (2, .int x2), (3, .int x3), (4, .int r6)] [.int r9, .int r6] m8
        refine x_icmp_ne (tgt := 58) (by decide) (dk zX3_faultOf 31 rfl) (fun c10 => ?_) (fun c10 => ?_)
        · have hc10t := hm8.1 c10
          refine x_aload_n 1 rfl rfl (dk zX3_faultOf 34 rfl) ?_
          refine x_iload 4 rfl (dk zX3_faultOf 35 rfl) ?_
          refine x_callV (as := [.int r6]) (o := x1) (ci := 8) (st := []) rfl okRX3_41 npX8_at ⟨Nat.le_of_ble_eq_true rfl, Nat.le_of_ble_eq_true rfl⟩ hk_x1 (by decide) rfl (Nat.le_of_ble_eq_true rfl) (dk zX3_faultOf 36 rfl) ?_
          refine hc10t.mono ?_
          rintro _ m11 ⟨r12, rfl, hm11⟩
          show Ex E MX3_faultOf Q 64 [(0, .ref 1), (1, .ref x1), (2, .int x2), (3, .int x3), (4, .int r6)] [.int r12] m11
          refine x_bipush (v := 59) (by decide) (dk zX3_faultOf 37 rfl) ?_
          refine x_icmp_eq (tgt := 72) (by decide) (dk zX3_faultOf 38 rfl) (fun c13 => ?_) (fun c13 => ?_)
          · have hc13t := hm11.1 c13
            refine x_iload 4 rfl (dk zX3_faultOf 41 rfl) ?_
            refine x_iconst (v := 1) (by decide) (dk zX3_faultOf 42 rfl) ?_
            refine x_iadd (dk zX3_faultOf 43 rfl) ?_
            refine x_topi (fun v14 ev14 => ?_)
            have hv14 := hc13t v14 ev14
            refine x_istore_n (k := 2) (l' := [(0, .ref 1), (1, .ref x1), (2, .int v14), (3, .int x3), (4, .int r6)]) [1, 2, 0, 3, 4] rfl rfl (by decide) (dk zX3_faultOf 44 rfl) ?_
            obtain ⟨v15, ev15⟩ : ∃ y : Int32, y = x3 + 1 := ⟨_, rfl⟩
            have hv15 := hv14 v15 ev15
            refine x_iinc (v := v15) (l' := [(0, .ref 1), (1, .ref x1), (2, .int v14), (3, .int v15), (4, .int r6)]) 3 rfl (by rw [ev15]; rfl) [1, 2, 3, 0, 4] rfl (by decide) (dk zX3_faultOf 45 rfl) ?_
            refine x_goto (tgt := 4) (by decide) (dk zX3_faultOf 46 rfl) ?_
            exact x_sub [0, 1, 2, 3] rfl hv15
          · have hc13f := hm11.2 c13
            refine x_iload 4 rfl (dk zX3_faultOf 39 rfl) ?_
            exact x_iret (ty := .int) rfl rfl (dk zX3_faultOf 40 rfl) hc13f
        · have hc10f := hm8.2 c10
          refine x_iconst (v := -1) (by decide) (dk zX3_faultOf 32 rfl) ?_
          exact x_iret (ty := .int) rfl rfl (dk zX3_faultOf 33 rfl) hc10f
      · have hc7f := hm5.2 c7
        refine x_iload 4 rfl (dk zX3_faultOf 24 rfl) ?_
        refine x_iconst (v := -1) (by decide) (dk zX3_faultOf 25 rfl) ?_
        refine x_ixor (dk zX3_faultOf 26 rfl) ?_
        exact x_iret (ty := .int) rfl rfl (dk zX3_faultOf 27 rfl) hc7f
    · have hc4f := hm2.2 c4
      refine x_aload_n 0 rfl rfl (dk zX3_faultOf 12 rfl) ?_
      refine x_aload_n 1 rfl rfl (dk zX3_faultOf 13 rfl) ?_
      refine x_iload_n 2 rfl rfl (dk zX3_faultOf 14 rfl) ?_
      refine x_callV (as := [.ref x1, .int x2]) (o := 1) (ci := 3) (st := []) rfl okRX3_45 npX3_takeRoom ⟨Nat.le_of_ble_eq_true rfl, Nat.le_of_ble_eq_true rfl⟩ k1 (by decide) rfl (Nat.le_of_ble_eq_true rfl) (dk zX3_faultOf 15 rfl) ?_
      refine hc4f.mono ?_
      rintro _ m16 ⟨r17, rfl, hm16⟩
      show Ex E MX3_faultOf Q 26 [(0, .ref 1), (1, .ref x1), (2, .int x2), (3, .int x3)] [.int r17] m16
      refine x_goto (tgt := 35) (by decide) (dk zX3_faultOf 16 rfl) ?_
      refine x_istoreG (l' := [(0, .ref 1), (1, .ref x1), (2, .int x2), (3, .int x3), (4, .int r17)]) [1, 2, 3, 4, 0] rfl (by decide) (dk zX3_faultOf 21 rfl) ?_
      refine x_iload 4 rfl (dk zX3_faultOf 22 rfl) ?_
      refine x_if_ge (tgt := 47) (by decide) (dk zX3_faultOf 23 rfl) (fun c18 => ?_) (fun c18 => ?_)
      · have hc18t := hm16.1 c18
        refine x_iload 4 rfl (dk zX3_faultOf 28 rfl) ?_
        refine x_aload_n 1 rfl rfl (dk zX3_faultOf 29 rfl) ?_
        refine x_callV (as := []) (o := x1) (ci := 8) (st := [.int r17]) rfl okRX3_25 npX8_size ⟨Nat.le_of_ble_eq_true rfl, Nat.le_of_ble_eq_true rfl⟩ hk_x1 (by decide) rfl (Nat.le_of_ble_eq_true rfl) (dk zX3_faultOf 30 rfl) ?_
        refine hc18t.mono ?_
        rintro _ m19 ⟨r20, rfl, hm19⟩
        show Ex E MX3_faultOf Q 53 [(0, .ref 1), (1, .ref x1), (2, .int x2), (3, .int x3), (4, .int r17)] [.int r20, .int r17] m19
        refine x_icmp_ne (tgt := 58) (by decide) (dk zX3_faultOf 31 rfl) (fun c21 => ?_) (fun c21 => ?_)
        · have hc21t := hm19.1 c21
          refine x_aload_n 1 rfl rfl (dk zX3_faultOf 34 rfl) ?_
          refine x_iload 4 rfl (dk zX3_faultOf 35 rfl) ?_
          refine x_callV (as := [.int r17]) (o := x1) (ci := 8) (st := []) rfl okRX3_41 npX8_at ⟨Nat.le_of_ble_eq_true rfl, Nat.le_of_ble_eq_true rfl⟩ hk_x1 (by decide) rfl (Nat.le_of_ble_eq_true rfl) (dk zX3_faultOf 36 rfl) ?_
          refine hc21t.mono ?_
          rintro _ m22 ⟨r23, rfl, hm22⟩
          show Ex E MX3_faultOf Q 64 [(0, .ref 1), (1, .ref x1), (2, .int x2), (3, .int x3), (4, .int r17)] [.int r23] m22
          refine x_bipush (v := 59) (by decide) (dk zX3_faultOf 37 rfl) ?_
          refine x_icmp_eq (tgt := 72) (by decide) (dk zX3_faultOf 38 rfl) (fun c24 => ?_) (fun c24 => ?_)
          · have hc24t := hm22.1 c24
            refine x_iload 4 rfl (dk zX3_faultOf 41 rfl) ?_
            refine x_iconst (v := 1) (by decide) (dk zX3_faultOf 42 rfl) ?_
            refine x_iadd (dk zX3_faultOf 43 rfl) ?_
            refine x_topi (fun v25 ev25 => ?_)
            have hv25 := hc24t v25 ev25
            refine x_istore_n (k := 2) (l' := [(0, .ref 1), (1, .ref x1), (2, .int v25), (3, .int x3), (4, .int r17)]) [1, 2, 0, 3, 4] rfl rfl (by decide) (dk zX3_faultOf 44 rfl) ?_
            obtain ⟨v26, ev26⟩ : ∃ y : Int32, y = x3 + 1 := ⟨_, rfl⟩
            have hv26 := hv25 v26 ev26
            refine x_iinc (v := v26) (l' := [(0, .ref 1), (1, .ref x1), (2, .int v25), (3, .int v26), (4, .int r17)]) 3 rfl (by rw [ev26]; rfl) [1, 2, 3, 0, 4] rfl (by decide) (dk zX3_faultOf 45 rfl) ?_
            refine x_goto (tgt := 4) (by decide) (dk zX3_faultOf 46 rfl) ?_
            exact x_sub [0, 1, 2, 3] rfl hv26
          · have hc24f := hm22.2 c24
            refine x_iload 4 rfl (dk zX3_faultOf 39 rfl) ?_
            exact x_iret (ty := .int) rfl rfl (dk zX3_faultOf 40 rfl) hc24f
        · have hc21f := hm19.2 c21
          refine x_iconst (v := -1) (by decide) (dk zX3_faultOf 32 rfl) ?_
          exact x_iret (ty := .int) rfl rfl (dk zX3_faultOf 33 rfl) hc21f
      · have hc18f := hm16.2 c18
        refine x_iload 4 rfl (dk zX3_faultOf 24 rfl) ?_
        refine x_iconst (v := -1) (by decide) (dk zX3_faultOf 25 rfl) ?_
        refine x_ixor (dk zX3_faultOf 26 rfl) ?_
        exact x_iret (ty := .int) rfl rfl (dk zX3_faultOf 27 rfl) hc18f
set_option maxRecDepth 20000 in
set_option maxHeartbeats 2000000 in
theorem gX3_learn_0 {E : EV} {Q : Po} {μ : Mem} {x1 : Nat} (hk1 : kd x1 = 8) (h : Sp E MX3_forget [.ref 1] μ (fun v m1 => v = none ∧ Sp E MX8_size [.ref x1] m1 (fun v m2 => ∃ r3 : Int32, v = some (.int r3) ∧ ((¬ r3 = 0 → Sp E MX3_faultOf [.ref 1, .ref x1] m2 (fun v m5 => ∃ r6 : Int32, v = some (.int r6) ∧ ((((mI m5 1 5 r6).1 1 5) = ((-1)) → Q none (mI m5 1 5 r6)) ∧ (¬ ((mI m5 1 5 r6).1 1 5) = ((-1)) → Sp E MX3_forget [.ref 1] (mI m5 1 5 r6) (fun v m8 => v = none ∧ Q none m8))))) ∧ (r3 = 0 → ((((mI m2 1 5 ((-1))).1 1 5) = ((-1)) → Q none (mI m2 1 5 ((-1)))) ∧ (¬ ((mI m2 1 5 ((-1))).1 1 5) = ((-1)) → Sp E MX3_forget [.ref 1] (mI m2 1 5 ((-1))) (fun v m10 => v = none ∧ Q none m10)))))))) : Ex E MX3_learn Q 0 [(0, .ref 1), (1, .ref x1)] [] μ := by
  refine x_aload_n 0 rfl rfl (dk zX3_learn 0 rfl) ?_
  refine x_callV (as := []) (o := 1) (ci := 3) (st := []) rfl okRX3_22 npX3_forget ⟨Nat.le_of_ble_eq_true rfl, Nat.le_of_ble_eq_true rfl⟩ k1 (by decide) rfl (Nat.le_of_ble_eq_true rfl) (dk zX3_learn 1 rfl) ?_
  refine h.mono ?_
  rintro _ m1 ⟨rfl, hm1⟩
  show Ex E MX3_learn Q 4 [(0, .ref 1), (1, .ref x1)] [] m1
  refine x_aload_n 0 rfl rfl (dk zX3_learn 2 rfl) ?_
  refine x_aload_n 1 rfl rfl (dk zX3_learn 3 rfl) ?_
  refine x_callV (as := []) (o := x1) (ci := 8) (st := [.ref 1]) rfl okRX3_25 npX8_size ⟨Nat.le_of_ble_eq_true rfl, Nat.le_of_ble_eq_true rfl⟩ hk1 (by decide) rfl (Nat.le_of_ble_eq_true rfl) (dk zX3_learn 4 rfl) ?_
  refine hm1.mono ?_
  rintro _ m2 ⟨r3, rfl, hm2⟩
  show Ex E MX3_learn Q 9 [(0, .ref 1), (1, .ref x1)] [.int r3, .ref 1] m2
  refine x_if_ne (tgt := 16) (by decide) (dk zX3_learn 5 rfl) (fun c4 => ?_) (fun c4 => ?_)
  · have hc4t := hm2.1 c4
    refine x_aload_n 0 rfl rfl (dk zX3_learn 8 rfl) ?_
    refine x_aload_n 1 rfl rfl (dk zX3_learn 9 rfl) ?_
    refine x_callV (as := [.ref x1]) (o := 1) (ci := 3) (st := [.ref 1]) rfl okRX3_31 npX3_faultOf ⟨Nat.le_of_ble_eq_true rfl, Nat.le_of_ble_eq_true rfl⟩ k1 (by decide) rfl (Nat.le_of_ble_eq_true rfl) (dk zX3_learn 10 rfl) ?_
    refine hc4t.mono ?_
    rintro _ m5 ⟨r6, rfl, hm5⟩
    show Ex E MX3_learn Q 21 [(0, .ref 1), (1, .ref x1)] [.int r6, .ref 1] m5
    refine pf3_5 rfl k1 (dk zX3_learn 11 rfl) ?_
    refine x_aload_n 0 rfl rfl (dk zX3_learn 12 rfl) ?_
    refine gf3_5 rfl k1 (dk zX3_learn 13 rfl) ?_
    refine x_iconst (v := -1) (by decide) (dk zX3_learn 14 rfl) ?_
    refine x_icmp_eq (tgt := 36) (by decide) (dk zX3_learn 15 rfl) (fun c7 => ?_) (fun c7 => ?_)
    · have hc7t := hm5.1 c7
      exact x_vret rfl (dk zX3_learn 18 rfl) hc7t
    · have hc7f := hm5.2 c7
      refine x_aload_n 0 rfl rfl (dk zX3_learn 16 rfl) ?_
      refine x_callV (as := []) (o := 1) (ci := 3) (st := []) rfl okRX3_22 npX3_forget ⟨Nat.le_of_ble_eq_true rfl, Nat.le_of_ble_eq_true rfl⟩ k1 (by decide) rfl (Nat.le_of_ble_eq_true rfl) (dk zX3_learn 17 rfl) ?_
      refine hc7f.mono ?_
      rintro _ m8 ⟨rfl, hm8⟩
      show Ex E MX3_learn Q 36 [(0, .ref 1), (1, .ref x1)] [] m8
      exact x_vret rfl (dk zX3_learn 18 rfl) hm8
  · have hc4f := hm2.2 c4
    refine x_iconst (v := -1) (by decide) (dk zX3_learn 6 rfl) ?_
    refine x_goto (tgt := 21) (by decide) (dk zX3_learn 7 rfl) ?_
    refine pf3_5 rfl k1 (dk zX3_learn 11 rfl) ?_
    refine x_aload_n 0 rfl rfl (dk zX3_learn 12 rfl) ?_
    refine gf3_5 rfl k1 (dk zX3_learn 13 rfl) ?_
    refine x_iconst (v := -1) (by decide) (dk zX3_learn 14 rfl) ?_
    refine x_icmp_eq (tgt := 36) (by decide) (dk zX3_learn 15 rfl) (fun c9 => ?_) (fun c9 => ?_)
    · have hc9t := hc4f.1 c9
      exact x_vret rfl (dk zX3_learn 18 rfl) hc9t
    · have hc9f := hc4f.2 c9
      refine x_aload_n 0 rfl rfl (dk zX3_learn 16 rfl) ?_
      refine x_callV (as := []) (o := 1) (ci := 3) (st := []) rfl okRX3_22 npX3_forget ⟨Nat.le_of_ble_eq_true rfl, Nat.le_of_ble_eq_true rfl⟩ k1 (by decide) rfl (Nat.le_of_ble_eq_true rfl) (dk zX3_learn 17 rfl) ?_
      refine hc9f.mono ?_
      rintro _ m10 ⟨rfl, hm10⟩
      show Ex E MX3_learn Q 36 [(0, .ref 1), (1, .ref x1)] [] m10
      exact x_vret rfl (dk zX3_learn 18 rfl) hm10
set_option maxRecDepth 20000 in
set_option maxHeartbeats 2000000 in
theorem gX3_close_0 {E : EV} {Q : Po} {μ : Mem} {x1 : Int32} (h : ∀ v1 : Int32, v1 = μ.1 1 3 → Q (some (.int v1)) (mI μ 1 3 x1)) : Ex E MX3_close Q 0 [(0, .ref 1), (1, .int x1)] [] μ := by
  refine x_aload_n 0 rfl rfl (dk zX3_close 0 rfl) ?_
  refine gf3_3 rfl k1 (dk zX3_close 1 rfl) ?_
  refine x_topi (fun v1 ev1 => ?_)
  have hv1 := h v1 ev1
  refine x_istore_n (k := 2) (l' := [(0, .ref 1), (1, .int x1), (2, .int v1)]) [1, 2, 0] rfl rfl (by decide) (dk zX3_close 2 rfl) ?_
  refine x_aload_n 0 rfl rfl (dk zX3_close 3 rfl) ?_
  refine x_iload_n 1 rfl rfl (dk zX3_close 4 rfl) ?_
  refine pf3_3 rfl k1 (dk zX3_close 5 rfl) ?_
  refine x_iload_n 2 rfl rfl (dk zX3_close 6 rfl) ?_
  exact x_iret (ty := .int) rfl rfl (dk zX3_close 7 rfl) hv1
set_option maxRecDepth 20000 in
set_option maxHeartbeats 2000000 in
theorem gX3_faultPlace_0 {E : EV} {Q : Po} {μ : Mem}  (h : Q (some (.int (μ.1 1 5))) μ) : Ex E MX3_faultPlace Q 0 [(0, .ref 1)] [] μ := by
  refine x_aload_n 0 rfl rfl (dk zX3_faultPlace 0 rfl) ?_
  refine gf3_5 rfl k1 (dk zX3_faultPlace 1 rfl) ?_
  exact x_iret (ty := .int) rfl rfl (dk zX3_faultPlace 2 rfl) h
set_option maxRecDepth 20000 in
set_option maxHeartbeats 2000000 in
theorem gX3_gatesWatched_0 {E : EV} {Q : Po} {μ : Mem}  (h : Sp E MJ6_bitCount_0f7a4 [.int (μ.1 1 2)] μ (fun v m1 => ∃ r2 : Int32, v = some (.int r2) ∧ Q (some (.int r2)) m1)) : Ex E MX3_gatesWatched Q 0 [(0, .ref 1)] [] μ := by
  refine x_aload_n 0 rfl rfl (dk zX3_gatesWatched 0 rfl) ?_
  refine gf3_2 rfl k1 (dk zX3_gatesWatched 1 rfl) ?_
  refine x_callS (as := [.int (μ.1 1 2)]) (st := []) rfl okRX3_62 npJ6_bitCount_0f7a4 ⟨Nat.le_of_ble_eq_true rfl, Nat.le_of_ble_eq_true rfl⟩ (Nat.le_of_ble_eq_true rfl) (dk zX3_gatesWatched 2 rfl) ?_
  refine h.mono ?_
  rintro _ m1 ⟨r2, rfl, hm1⟩
  show Ex E MX3_gatesWatched Q 7 [(0, .ref 1)] [.int r2] m1
  exact x_iret (ty := .int) rfl rfl (dk zX3_gatesWatched 3 rfl) hm1
set_option maxRecDepth 20000 in
set_option maxHeartbeats 2000000 in
theorem gX3_hasGate_0 {E : EV} {Q : Po} {μ : Mem} {x1 : Int32} (h : ((x1 < 0 → Q (some (.int 0)) μ) ∧ (¬ x1 < 0 → (((μ.1 1 1) ≤ x1 → Q (some (.int 0)) μ) ∧ (¬ (μ.1 1 1) ≤ x1 → Q (some (.int 1)) μ))))) : Ex E MX3_hasGate Q 0 [(0, .ref 1), (1, .int x1)] [] μ := by
  refine x_iload_n 1 rfl rfl (dk zX3_hasGate 0 rfl) ?_
  refine x_if_lt (tgt := 16) (by decide) (dk zX3_hasGate 1 rfl) (fun c1 => ?_) (fun c1 => ?_)
  · have hc1t := h.1 c1
    refine x_iconst (v := 0) (by decide) (dk zX3_hasGate 8 rfl) ?_
    exact x_iret rfl rfl (dk zX3_hasGate 9 rfl) hc1t
  · have hc1f := h.2 c1
    refine x_iload_n 1 rfl rfl (dk zX3_hasGate 2 rfl) ?_
    refine x_aload_n 0 rfl rfl (dk zX3_hasGate 3 rfl) ?_
    refine gf3_1 rfl k1 (dk zX3_hasGate 4 rfl) ?_
    refine x_icmp_ge (tgt := 16) (by decide) (dk zX3_hasGate 5 rfl) (fun c2 => ?_) (fun c2 => ?_)
    · have hc2t := hc1f.1 c2
      refine x_iconst (v := 0) (by decide) (dk zX3_hasGate 8 rfl) ?_
      exact x_iret rfl rfl (dk zX3_hasGate 9 rfl) hc2t
    · have hc2f := hc1f.2 c2
      refine x_iconst (v := 1) (by decide) (dk zX3_hasGate 6 rfl) ?_
      refine x_goto (tgt := 17) (by decide) (dk zX3_hasGate 7 rfl) ?_
      exact x_iret rfl rfl (dk zX3_hasGate 9 rfl) hc2f
set_option maxRecDepth 20000 in
set_option maxHeartbeats 2000000 in
theorem gX3_openGates_0 {E : EV} {Q : Po} {μ : Mem}  (h : Q (some (.int (((1 <<< (((μ.1 1 1) : Int32) &&& 31)) - 1) &&& ((μ.1 1 3) ^^^ ((-1)))))) μ) : Ex E MX3_openGates Q 0 [(0, .ref 1)] [] μ := by
  refine x_iconst (v := 1) (by decide) (dk zX3_openGates 0 rfl) ?_
  refine x_aload_n 0 rfl rfl (dk zX3_openGates 1 rfl) ?_
  refine gf3_1 rfl k1 (dk zX3_openGates 2 rfl) ?_
  refine x_ishl (dk zX3_openGates 3 rfl) ?_
  refine x_iconst (v := 1) (by decide) (dk zX3_openGates 4 rfl) ?_
  refine x_isub (dk zX3_openGates 5 rfl) ?_
  refine x_aload_n 0 rfl rfl (dk zX3_openGates 6 rfl) ?_
  refine gf3_3 rfl k1 (dk zX3_openGates 7 rfl) ?_
  refine x_iconst (v := -1) (by decide) (dk zX3_openGates 8 rfl) ?_
  refine x_ixor (dk zX3_openGates 9 rfl) ?_
  refine x_iand (dk zX3_openGates 10 rfl) ?_
  exact x_iret (ty := .int) rfl rfl (dk zX3_openGates 11 rfl) h
set_option maxRecDepth 20000 in
set_option maxHeartbeats 2000000 in
theorem gX4_isFull_0 {E : EV} {Q : Po} {μ : Mem}  (h : (((μ.1 78 4) < 12 → Q (some (.int 0)) μ) ∧ (¬ (μ.1 78 4) < 12 → Q (some (.int 1)) μ))) : Ex E MX4_isFull Q 0 [(0, .ref 78)] [] μ := by
  refine x_aload_n 0 rfl rfl (dk zX4_isFull 0 rfl) ?_
  refine gf4_4 rfl k78 (dk zX4_isFull 1 rfl) ?_
  refine x_bipush (v := 12) (by decide) (dk zX4_isFull 2 rfl) ?_
  refine x_icmp_lt (tgt := 13) (by decide) (dk zX4_isFull 3 rfl) (fun c1 => ?_) (fun c1 => ?_)
  · have hc1t := h.1 c1
    refine x_iconst (v := 0) (by decide) (dk zX4_isFull 6 rfl) ?_
    exact x_iret rfl rfl (dk zX4_isFull 7 rfl) hc1t
  · have hc1f := h.2 c1
    refine x_iconst (v := 1) (by decide) (dk zX4_isFull 4 rfl) ?_
    refine x_goto (tgt := 14) (by decide) (dk zX4_isFull 5 rfl) ?_
    exact x_iret rfl rfl (dk zX4_isFull 7 rfl) hc1f
set_option maxRecDepth 20000 in
set_option maxHeartbeats 2000000 in
theorem gX4_size_0 {E : EV} {Q : Po} {μ : Mem}  (h : Q (some (.int (μ.1 78 4))) μ) : Ex E MX4_size Q 0 [(0, .ref 78)] [] μ := by
  refine x_aload_n 0 rfl rfl (dk zX4_size 0 rfl) ?_
  refine gf4_4 rfl k78 (dk zX4_size 1 rfl) ?_
  exact x_iret (ty := .int) rfl rfl (dk zX4_size 2 rfl) h
set_option maxRecDepth 20000 in
set_option maxHeartbeats 2000000 in
theorem gX4_append_0 {E : EV} {Q : Po} {μ : Mem} {x1 : Nat} {x2 : Int32} (hk1 : kd x1 = 5) (h : Sp E MX4_isFull [.ref 78] μ (fun v m1 => ∃ r2 : Int32, v = some (.int r2) ∧ ((r2 = 0 → Ex E MX4_append Q 10 [(0, .ref 78), (1, .ref x1), (2, .int x2), (3, .int 0)] [] m1) ∧ (¬ r2 = 0 → Q none m1)))) : Ex E MX4_append Q 0 [(0, .ref 78), (1, .ref x1), (2, .int x2)] [] μ := by
  refine x_aload_n 0 rfl rfl (dk zX4_append 0 rfl) ?_
  refine x_callV (as := []) (o := 78) (ci := 4) (st := []) rfl okRX4_28 npX4_isFull ⟨Nat.le_of_ble_eq_true rfl, Nat.le_of_ble_eq_true rfl⟩ k78 (by decide) rfl (Nat.le_of_ble_eq_true rfl) (dk zX4_append 1 rfl) ?_
  refine h.mono ?_
  rintro _ m1 ⟨r2, rfl, hm1⟩
  show Ex E MX4_append Q 4 [(0, .ref 78), (1, .ref x1), (2, .int x2)] [.int r2] m1
  refine x_if_eq (tgt := 8) (by decide) (dk zX4_append 2 rfl) (fun c3 => ?_) (fun c3 => ?_)
  · have hc3t := hm1.1 c3
    refine x_iconst (v := 0) (by decide) (dk zX4_append 4 rfl) ?_
    refine x_istore_n (k := 3) (l' := [(0, .ref 78), (1, .ref x1), (2, .int x2), (3, .int 0)]) [1, 2, 3, 0] rfl rfl (by decide) (dk zX4_append 5 rfl) ?_
    exact hc3t
  · have hc3f := hm1.2 c3
    exact x_vret rfl (dk zX4_append 3 rfl) hc3f
set_option maxRecDepth 20000 in
set_option maxHeartbeats 2000000 in
theorem gX4_append_10 {E : EV} {Q : Po} {μ : Mem} {x1 : Nat} {x2 : Int32} {x3 : Int32} (hk_x1 : kd x1 = 5) (h : ((11 ≤ x3 → Sp E MX5_size [.ref x1] μ (fun v m2 => ∃ r3 : Int32, v = some (.int r3) ∧ vp_in (μ.1 78 4) 12 ∧ (vp_in ((mI m2 80 ((μ.1 78 4).toNatClampNeg) r3).1 78 4) 12 ∧ (∀ v6 : Int32, v6 = ((mI (mI m2 80 ((μ.1 78 4).toNatClampNeg) r3) 81 (((mI m2 80 ((μ.1 78 4).toNatClampNeg) r3).1 78 4).toNatClampNeg) x2).1 78 4) + 1 → Q none (mI (mI (mI m2 80 ((μ.1 78 4).toNatClampNeg) r3) 81 (((mI m2 80 ((μ.1 78 4).toNatClampNeg) r3).1 78 4).toNatClampNeg) x2) 78 4 v6))))) ∧ (¬ 11 ≤ x3 → Sp E MX5_at [.ref x1, .int x3] μ (fun v m7 => ∃ r8 : Int32, v = some (.int r8) ∧ vp_in (((μ.1 78 4) * 11) + x3) 132 ∧ (∀ v10 : Int32, v10 = x3 + 1 → Ex E MX4_append Q 10 [(0, .ref 78), (1, .ref x1), (2, .int x2), (3, .int v10)] [] (mI m7 79 ((((μ.1 78 4) * 11) + x3).toNatClampNeg) r8)))))) : Ex E MX4_append Q 10 [(0, .ref 78), (1, .ref x1), (2, .int x2), (3, .int x3)] [] μ := by
  refine x_iload_n 3 rfl rfl (dk zX4_append 6 rfl) ?_
  refine x_bipush (v := 11) (by decide) (dk zX4_append 7 rfl) ?_
  refine x_icmp_ge (tgt := 41) (by decide) (dk zX4_append 8 rfl) (fun c1 => ?_) (fun c1 => ?_)
  · have hc1t := h.1 c1
    refine x_aload_n 0 rfl rfl (dk zX4_append 23 rfl) ?_
    refine gf4_1 (r := 80) rfl k78 r78_1 (dk zX4_append 24 rfl) ?_
    refine x_aload_n 0 rfl rfl (dk zX4_append 25 rfl) ?_
    refine gf4_4 rfl k78 (dk zX4_append 26 rfl) ?_
    refine x_aload_n 1 rfl rfl (dk zX4_append 27 rfl) ?_
    refine x_callV (as := []) (o := x1) (ci := 5) (st := [.int (μ.1 78 4), .ref 80]) rfl okRX4_38 npX5_size ⟨Nat.le_of_ble_eq_true rfl, Nat.le_of_ble_eq_true rfl⟩ hk_x1 (by decide) rfl (Nat.le_of_ble_eq_true rfl) (dk zX4_append 28 rfl) ?_
    refine hc1t.mono ?_
    rintro _ m2 ⟨r3, rfl, hm2⟩
    show Ex E MX4_append Q 53 [(0, .ref 78), (1, .ref x1), (2, .int x2), (3, .int x3)] [.int r3, .int (μ.1 78 4), .ref 80] m2
    have b4 := hm2.1
    have hb4 := hm2.2
    refine y_iast (j := (μ.1 78 4).toNatClampNeg) k80 l80 b4 rfl (dk zX4_append 29 rfl) ?_
    refine x_aload_n 0 rfl rfl (dk zX4_append 30 rfl) ?_
    refine gf4_2 (r := 81) rfl k78 r78_2 (dk zX4_append 31 rfl) ?_
    refine x_aload_n 0 rfl rfl (dk zX4_append 32 rfl) ?_
    refine gf4_4 rfl k78 (dk zX4_append 33 rfl) ?_
    refine x_iload_n 2 rfl rfl (dk zX4_append 34 rfl) ?_
    have b5 := hb4.1
    have hb5 := hb4.2
    refine y_iast (j := ((mI m2 80 ((μ.1 78 4).toNatClampNeg) r3).1 78 4).toNatClampNeg) k81 l81 b5 rfl (dk zX4_append 35 rfl) ?_
    refine x_aload_n 0 rfl rfl (dk zX4_append 36 rfl) ?_
    refine x_dupr (dk zX4_append 37 rfl) ?_
    refine gf4_4 rfl k78 (dk zX4_append 38 rfl) ?_
    refine x_iconst (v := 1) (by decide) (dk zX4_append 39 rfl) ?_
    refine x_iadd (dk zX4_append 40 rfl) ?_
    refine x_topi (fun v6 ev6 => ?_)
    have hv6 := hb5 v6 ev6
    refine pf4_4 rfl k78 (dk zX4_append 41 rfl) ?_
    exact x_vret rfl (dk zX4_append 42 rfl) hv6
  · have hc1f := h.2 c1
    refine x_aload_n 0 rfl rfl (dk zX4_append 9 rfl) ?_
    refine gf4_0 (r := 79) rfl k78 r78_0 (dk zX4_append 10 rfl) ?_
    refine x_aload_n 0 rfl rfl (dk zX4_append 11 rfl) ?_
    refine gf4_4 rfl k78 (dk zX4_append 12 rfl) ?_
    refine x_bipush (v := 11) (by decide) (dk zX4_append 13 rfl) ?_
    refine x_imul (dk zX4_append 14 rfl) ?_
    refine x_iload_n 3 rfl rfl (dk zX4_append 15 rfl) ?_
    refine x_iadd (dk zX4_append 16 rfl) ?_
    refine x_aload_n 1 rfl rfl (dk zX4_append 17 rfl) ?_
    refine x_iload_n 3 rfl rfl (dk zX4_append 18 rfl) ?_
    refine x_callV (as := [.int x3]) (o := x1) (ci := 5) (st := [.int (((μ.1 78 4) * 11) + x3), .ref 79]) rfl okRX4_32 npX5_at ⟨Nat.le_of_ble_eq_true rfl, Nat.le_of_ble_eq_true rfl⟩ hk_x1 (by decide) rfl (Nat.le_of_ble_eq_true rfl) (dk zX4_append 19 rfl) ?_
    refine hc1f.mono ?_
    rintro _ m7 ⟨r8, rfl, hm7⟩
    show Ex E MX4_append Q 34 [(0, .ref 78), (1, .ref x1), (2, .int x2), (3, .int x3)] [.int r8, .int (((μ.1 78 4) * 11) + x3), .ref 79] m7
    have b9 := hm7.1
    have hb9 := hm7.2
    refine y_iast (j := (((μ.1 78 4) * 11) + x3).toNatClampNeg) k79 l79 b9 rfl (dk zX4_append 20 rfl) ?_
    obtain ⟨v10, ev10⟩ : ∃ y : Int32, y = x3 + 1 := ⟨_, rfl⟩
    have hv10 := hb9 v10 ev10
    refine x_iinc (v := v10) (l' := [(0, .ref 78), (1, .ref x1), (2, .int x2), (3, .int v10)]) 3 rfl (by rw [ev10]; rfl) [1, 2, 3, 0] rfl (by decide) (dk zX4_append 21 rfl) ?_
    refine x_goto (tgt := 10) (by decide) (dk zX4_append 22 rfl) ?_
    exact hv10
set_option maxRecDepth 20000 in
set_option maxHeartbeats 2000000 in
theorem gX4_dropLast_0 {E : EV} {Q : Po} {μ : Mem}  (h : ∀ v1 : Int32, v1 = (if 0 < ((μ.1 78 4) - 1) then ((μ.1 78 4) - 1) else 0) → Q none (mI μ 78 4 v1)) : Ex E MX4_dropLast Q 0 [(0, .ref 78)] [] μ := by
  refine x_aload_n 0 rfl rfl (dk zX4_dropLast 0 rfl) ?_
  refine x_iconst (v := 0) (by decide) (dk zX4_dropLast 1 rfl) ?_
  refine x_aload_n 0 rfl rfl (dk zX4_dropLast 2 rfl) ?_
  refine gf4_4 rfl k78 (dk zX4_dropLast 3 rfl) ?_
  refine x_iconst (v := 1) (by decide) (dk zX4_dropLast 4 rfl) ?_
  refine x_isub (dk zX4_dropLast 5 rfl) ?_
  refine x_mmax rfl wmRX4_41 wmmax_s wmi wmmax_c (Nat.le_of_ble_eq_true rfl) (Nat.le_of_ble_eq_true rfl) (dk zX4_dropLast 6 rfl) ?_
  refine x_topi (fun v1 ev1 => ?_)
  have hv1 := h v1 ev1
  refine pf4_4 rfl k78 (dk zX4_dropLast 7 rfl) ?_
  exact x_vret rfl (dk zX4_dropLast 8 rfl) hv1
set_option maxRecDepth 20000 in
set_option maxHeartbeats 2000000 in
theorem gX4_goodOnes_0 {E : EV} {Q : Po} {μ : Mem}  (h : Ex E MX4_goodOnes Q 4 [(0, .ref 78), (1, .int 0), (2, .int 0)] [] μ) : Ex E MX4_goodOnes Q 0 [(0, .ref 78)] [] μ := by
  refine x_iconst (v := 0) (by decide) (dk zX4_goodOnes 0 rfl) ?_
  refine x_istore_n (k := 1) (l' := [(0, .ref 78), (1, .int 0)]) [1, 0] rfl rfl (by decide) (dk zX4_goodOnes 1 rfl) ?_
  refine x_iconst (v := 0) (by decide) (dk zX4_goodOnes 2 rfl) ?_
  refine x_istore_n (k := 2) (l' := [(0, .ref 78), (1, .int 0), (2, .int 0)]) [1, 2, 0] rfl rfl (by decide) (dk zX4_goodOnes 3 rfl) ?_
  exact h
set_option maxRecDepth 20000 in
set_option maxHeartbeats 2000000 in
theorem gX4_goodOnes_4 {E : EV} {Q : Po} {μ : Mem} {x1 : Int32} {x2 : Int32} (h : (((μ.1 78 4) ≤ x2 → Q (some (.int x1)) μ) ∧ (¬ (μ.1 78 4) ≤ x2 → vp_in x2 12 ∧ (∀ v3 : Int32, v3 = x1 + (μ.1 81 x2.toNatClampNeg) → ∀ v4 : Int32, v4 = x2 + 1 → Ex E MX4_goodOnes Q 4 [(0, .ref 78), (1, .int v3), (2, .int v4)] [] μ)))) : Ex E MX4_goodOnes Q 4 [(0, .ref 78), (1, .int x1), (2, .int x2)] [] μ := by
  refine x_iload_n 2 rfl rfl (dk zX4_goodOnes 4 rfl) ?_
  refine x_aload_n 0 rfl rfl (dk zX4_goodOnes 5 rfl) ?_
  refine gf4_4 rfl k78 (dk zX4_goodOnes 6 rfl) ?_
  refine x_icmp_ge (tgt := 27) (by decide) (dk zX4_goodOnes 7 rfl) (fun c1 => ?_) (fun c1 => ?_)
  · have hc1t := h.1 c1
    refine x_iload_n 1 rfl rfl (dk zX4_goodOnes 17 rfl) ?_
    exact x_iret (ty := .int) rfl rfl (dk zX4_goodOnes 18 rfl) hc1t
  · have hc1f := h.2 c1
    refine x_iload_n 1 rfl rfl (dk zX4_goodOnes 8 rfl) ?_
    refine x_aload_n 0 rfl rfl (dk zX4_goodOnes 9 rfl) ?_
    refine gf4_2 (r := 81) rfl k78 r78_2 (dk zX4_goodOnes 10 rfl) ?_
    refine x_iload_n 2 rfl rfl (dk zX4_goodOnes 11 rfl) ?_
    have b2 := hc1f.1
    have hb2 := hc1f.2
    refine y_iald (j := x2.toNatClampNeg) k81 l81 b2 rfl (dk zX4_goodOnes 12 rfl) ?_
    refine x_iadd (dk zX4_goodOnes 13 rfl) ?_
    refine x_topi (fun v3 ev3 => ?_)
    have hv3 := hb2 v3 ev3
    refine x_istore_n (k := 1) (l' := [(0, .ref 78), (1, .int v3), (2, .int x2)]) [1, 0, 2] rfl rfl (by decide) (dk zX4_goodOnes 14 rfl) ?_
    obtain ⟨v4, ev4⟩ : ∃ y : Int32, y = x2 + 1 := ⟨_, rfl⟩
    have hv4 := hv3 v4 ev4
    refine x_iinc (v := v4) (l' := [(0, .ref 78), (1, .int v3), (2, .int v4)]) 2 rfl (by rw [ev4]; rfl) [1, 2, 0] rfl (by decide) (dk zX4_goodOnes 15 rfl) ?_
    refine x_goto (tgt := 4) (by decide) (dk zX4_goodOnes 16 rfl) ?_
    exact hv4
set_option maxRecDepth 20000 in
set_option maxHeartbeats 2000000 in
theorem gX4_stampsOf_0 {E : EV} {Q : Po} {μ : Mem} {x1 : Int32} (h : ((x1 < 0 → Q (some (.int 0)) μ) ∧ (¬ x1 < 0 → (((μ.1 78 4) ≤ x1 → Q (some (.int 0)) μ) ∧ (¬ (μ.1 78 4) ≤ x1 → vp_in x1 12 ∧ (Q (some (.int (μ.1 80 x1.toNatClampNeg))) μ)))))) : Ex E MX4_stampsOf Q 0 [(0, .ref 78), (1, .int x1)] [] μ := by
  refine x_iload_n 1 rfl rfl (dk zX4_stampsOf 0 rfl) ?_
  refine x_if_lt (tgt := 21) (by decide) (dk zX4_stampsOf 1 rfl) (fun c1 => ?_) (fun c1 => ?_)
  · have hc1t := h.1 c1
    refine x_iconst (v := 0) (by decide) (dk zX4_stampsOf 11 rfl) ?_
    exact x_iret (ty := .int) rfl rfl (dk zX4_stampsOf 12 rfl) hc1t
  · have hc1f := h.2 c1
    refine x_iload_n 1 rfl rfl (dk zX4_stampsOf 2 rfl) ?_
    refine x_aload_n 0 rfl rfl (dk zX4_stampsOf 3 rfl) ?_
    refine gf4_4 rfl k78 (dk zX4_stampsOf 4 rfl) ?_
    refine x_icmp_ge (tgt := 21) (by decide) (dk zX4_stampsOf 5 rfl) (fun c2 => ?_) (fun c2 => ?_)
    · have hc2t := hc1f.1 c2
      refine x_iconst (v := 0) (by decide) (dk zX4_stampsOf 11 rfl) ?_
      exact x_iret (ty := .int) rfl rfl (dk zX4_stampsOf 12 rfl) hc2t
    · have hc2f := hc1f.2 c2
      refine x_aload_n 0 rfl rfl (dk zX4_stampsOf 6 rfl) ?_
      refine gf4_1 (r := 80) rfl k78 r78_1 (dk zX4_stampsOf 7 rfl) ?_
      refine x_iload_n 1 rfl rfl (dk zX4_stampsOf 8 rfl) ?_
      have b3 := hc2f.1
      have hb3 := hc2f.2
      refine y_iald (j := x1.toNatClampNeg) k80 l80 b3 rfl (dk zX4_stampsOf 9 rfl) ?_
      refine x_goto (tgt := 22) (by decide) (dk zX4_stampsOf 10 rfl) ?_
      exact x_iret (ty := .int) rfl rfl (dk zX4_stampsOf 12 rfl) hb3
set_option maxRecDepth 20000 in
set_option maxHeartbeats 2000000 in
theorem gX4_stampAt_0 {E : EV} {Q : Po} {μ : Mem} {x1 : Int32} {x2 : Int32} (h : ((x1 < 0 → Q (some (.int ((-1)))) μ) ∧ (¬ x1 < 0 → (((μ.1 78 4) ≤ x1 → Q (some (.int ((-1)))) μ) ∧ (¬ (μ.1 78 4) ≤ x1 → ((x2 < 0 → Q (some (.int ((-1)))) μ) ∧ (¬ x2 < 0 → ((11 ≤ x2 → Q (some (.int ((-1)))) μ) ∧ (¬ 11 ≤ x2 → vp_in ((x1 * 11) + x2) 132 ∧ (Q (some (.int (μ.1 79 (((x1 * 11) + x2).toNatClampNeg)))) μ)))))))))) : Ex E MX4_stampAt Q 0 [(0, .ref 78), (1, .int x1), (2, .int x2)] [] μ := by
  refine x_iload_n 1 rfl rfl (dk zX4_stampAt 0 rfl) ?_
  refine x_if_lt (tgt := 26) (by decide) (dk zX4_stampAt 1 rfl) (fun c1 => ?_) (fun c1 => ?_)
  · have hc1t := h.1 c1
    refine x_iconst (v := 0) (by decide) (dk zX4_stampAt 13 rfl) ?_
    refine x_istore_n (k := 3) (l' := [(0, .ref 78), (1, .int x1), (2, .int x2), (3, .int 0)]) [1, 2, 3, 0] rfl rfl (by decide) (dk zX4_stampAt 14 rfl) ?_
    refine x_iload_n 3 rfl rfl (dk zX4_stampAt 15 rfl) ?_
    refine x_if_eq (tgt := 46) (by decide) (dk zX4_stampAt 16 rfl) (fun _ => ?_) (fun c => absurd c (by decide))
    refine x_iconst (v := -1) (by decide) (dk zX4_stampAt 26 rfl) ?_
    exact x_iret (ty := .int) rfl rfl (dk zX4_stampAt 27 rfl) hc1t
  · have hc1f := h.2 c1
    refine x_iload_n 1 rfl rfl (dk zX4_stampAt 2 rfl) ?_
    refine x_aload_n 0 rfl rfl (dk zX4_stampAt 3 rfl) ?_
    refine gf4_4 rfl k78 (dk zX4_stampAt 4 rfl) ?_
    refine x_icmp_ge (tgt := 26) (by decide) (dk zX4_stampAt 5 rfl) (fun c2 => ?_) (fun c2 => ?_)
    · have hc2t := hc1f.1 c2
      refine x_iconst (v := 0) (by decide) (dk zX4_stampAt 13 rfl) ?_
      refine x_istore_n (k := 3) (l' := [(0, .ref 78), (1, .int x1), (2, .int x2), (3, .int 0)]) [1, 2, 3, 0] rfl rfl (by decide) (dk zX4_stampAt 14 rfl) ?_
      refine x_iload_n 3 rfl rfl (dk zX4_stampAt 15 rfl) ?_
      refine x_if_eq (tgt := 46) (by decide) (dk zX4_stampAt 16 rfl) (fun _ => ?_) (fun c => absurd c (by decide))
      refine x_iconst (v := -1) (by decide) (dk zX4_stampAt 26 rfl) ?_
      exact x_iret (ty := .int) rfl rfl (dk zX4_stampAt 27 rfl) hc2t
    · have hc2f := hc1f.2 c2
      refine x_iload_n 2 rfl rfl (dk zX4_stampAt 6 rfl) ?_
      refine x_if_lt (tgt := 26) (by decide) (dk zX4_stampAt 7 rfl) (fun c3 => ?_) (fun c3 => ?_)
      · have hc3t := hc2f.1 c3
        refine x_iconst (v := 0) (by decide) (dk zX4_stampAt 13 rfl) ?_
        refine x_istore_n (k := 3) (l' := [(0, .ref 78), (1, .int x1), (2, .int x2), (3, .int 0)]) [1, 2, 3, 0] rfl rfl (by decide) (dk zX4_stampAt 14 rfl) ?_
        refine x_iload_n 3 rfl rfl (dk zX4_stampAt 15 rfl) ?_
        refine x_if_eq (tgt := 46) (by decide) (dk zX4_stampAt 16 rfl) (fun _ => ?_) (fun c => absurd c (by decide))
        refine x_iconst (v := -1) (by decide) (dk zX4_stampAt 26 rfl) ?_
        exact x_iret (ty := .int) rfl rfl (dk zX4_stampAt 27 rfl) hc3t
      · have hc3f := hc2f.2 c3
        refine x_iload_n 2 rfl rfl (dk zX4_stampAt 8 rfl) ?_
        refine x_bipush (v := 11) (by decide) (dk zX4_stampAt 9 rfl) ?_
        refine x_icmp_ge (tgt := 26) (by decide) (dk zX4_stampAt 10 rfl) (fun c4 => ?_) (fun c4 => ?_)
        · have hc4t := hc3f.1 c4
          refine x_iconst (v := 0) (by decide) (dk zX4_stampAt 13 rfl) ?_
          refine x_istore_n (k := 3) (l' := [(0, .ref 78), (1, .int x1), (2, .int x2), (3, .int 0)]) [1, 2, 3, 0] rfl rfl (by decide) (dk zX4_stampAt 14 rfl) ?_
          refine x_iload_n 3 rfl rfl (dk zX4_stampAt 15 rfl) ?_
          refine x_if_eq (tgt := 46) (by decide) (dk zX4_stampAt 16 rfl) (fun _ => ?_) (fun c => absurd c (by decide))
          refine x_iconst (v := -1) (by decide) (dk zX4_stampAt 26 rfl) ?_
          exact x_iret (ty := .int) rfl rfl (dk zX4_stampAt 27 rfl) hc4t
        · have hc4f := hc3f.2 c4
          refine x_iconst (v := 1) (by decide) (dk zX4_stampAt 11 rfl) ?_
          refine x_goto (tgt := 27) (by decide) (dk zX4_stampAt 12 rfl) ?_
          refine x_istore_n (k := 3) (l' := [(0, .ref 78), (1, .int x1), (2, .int x2), (3, .int 1)]) [1, 2, 3, 0] rfl rfl (by decide) (dk zX4_stampAt 14 rfl) ?_
          refine x_iload_n 3 rfl rfl (dk zX4_stampAt 15 rfl) ?_
          refine x_if_eq (tgt := 46) (by decide) (dk zX4_stampAt 16 rfl) (fun c => absurd c (by decide)) (fun _ => ?_)
          refine x_aload_n 0 rfl rfl (dk zX4_stampAt 17 rfl) ?_
          refine gf4_0 (r := 79) rfl k78 r78_0 (dk zX4_stampAt 18 rfl) ?_
          refine x_iload_n 1 rfl rfl (dk zX4_stampAt 19 rfl) ?_
          refine x_bipush (v := 11) (by decide) (dk zX4_stampAt 20 rfl) ?_
          refine x_imul (dk zX4_stampAt 21 rfl) ?_
          refine x_iload_n 2 rfl rfl (dk zX4_stampAt 22 rfl) ?_
          refine x_iadd (dk zX4_stampAt 23 rfl) ?_
          have b5 := hc4f.1
          have hb5 := hc4f.2
          refine y_iald (j := ((x1 * 11) + x2).toNatClampNeg) k79 l79 b5 rfl (dk zX4_stampAt 24 rfl) ?_
          refine x_goto (tgt := 47) (by decide) (dk zX4_stampAt 25 rfl) ?_
          exact x_iret (ty := .int) rfl rfl (dk zX4_stampAt 27 rfl) hb5
set_option maxRecDepth 20000 in
set_option maxHeartbeats 2000000 in
theorem gX4_unlikeAt_0 {E : EV} {Q : Po} {μ : Mem} {x1 : Nat} {x2 : Int32} (hk1 : kd x1 = 5) (h : Ex E MX4_unlikeAt Q 5 [(0, .ref 78), (1, .ref x1), (2, .int x2), (3, .int 0), (4, .int 0)] [] μ) : Ex E MX4_unlikeAt Q 0 [(0, .ref 78), (1, .ref x1), (2, .int x2)] [] μ := by
  refine x_iconst (v := 0) (by decide) (dk zX4_unlikeAt 0 rfl) ?_
  refine x_istore_n (k := 3) (l' := [(0, .ref 78), (1, .ref x1), (2, .int x2), (3, .int 0)]) [1, 2, 3, 0] rfl rfl (by decide) (dk zX4_unlikeAt 1 rfl) ?_
  refine x_iconst (v := 0) (by decide) (dk zX4_unlikeAt 2 rfl) ?_
  refine x_istoreG (l' := [(0, .ref 78), (1, .ref x1), (2, .int x2), (3, .int 0), (4, .int 0)]) [1, 2, 3, 4, 0] rfl (by decide) (dk zX4_unlikeAt 3 rfl) ?_
  exact h
set_option maxRecDepth 20000 in
set_option maxHeartbeats 2000000 in
theorem gX4_unlikeAt_5 {E : EV} {Q : Po} {μ : Mem} {x1 : Nat} {x2 : Int32} {x3 : Int32} {x4 : Int32} (hk_x1 : kd x1 = 5) (h : ((11 ≤ x4 → Q (some (.int x3)) μ) ∧ (¬ 11 ≤ x4 → Sp E MX5_at [.ref x1, .int x4] μ (fun v m2 => ∃ r3 : Int32, v = some (.int r3) ∧ Sp E MX4_stampAt [.ref 78, .int x2, .int x4] m2 (fun v m4 => ∃ r5 : Int32, v = some (.int r5) ∧ ((r3 = r5 → ∀ v7 : Int32, v7 = x4 + 1 → Ex E MX4_unlikeAt Q 5 [(0, .ref 78), (1, .ref x1), (2, .int x2), (3, .int x3), (4, .int v7)] [] m4) ∧ (¬ r3 = r5 → ∀ v8 : Int32, v8 = x3 ||| (1 <<< ((x4 : Int32) &&& 31)) → ∀ v9 : Int32, v9 = x4 + 1 → Ex E MX4_unlikeAt Q 5 [(0, .ref 78), (1, .ref x1), (2, .int x2), (3, .int v8), (4, .int v9)] [] m4))))))) : Ex E MX4_unlikeAt Q 5 [(0, .ref 78), (1, .ref x1), (2, .int x2), (3, .int x3), (4, .int x4)] [] μ := by
  refine x_iload 4 rfl (dk zX4_unlikeAt 4 rfl) ?_
  refine x_bipush (v := 11) (by decide) (dk zX4_unlikeAt 5 rfl) ?_
  refine x_icmp_ge (tgt := 41) (by decide) (dk zX4_unlikeAt 6 rfl) (fun c1 => ?_) (fun c1 => ?_)
  · have hc1t := h.1 c1
    refine x_iload_n 3 rfl rfl (dk zX4_unlikeAt 23 rfl) ?_
    exact x_iret (ty := .int) rfl rfl (dk zX4_unlikeAt 24 rfl) hc1t
  · have hc1f := h.2 c1
    refine x_aload_n 1 rfl rfl (dk zX4_unlikeAt 7 rfl) ?_
    refine x_iload 4 rfl (dk zX4_unlikeAt 8 rfl) ?_
    refine x_callV (as := [.int x4]) (o := x1) (ci := 5) (st := []) rfl okRX4_32 npX5_at ⟨Nat.le_of_ble_eq_true rfl, Nat.le_of_ble_eq_true rfl⟩ hk_x1 (by decide) rfl (Nat.le_of_ble_eq_true rfl) (dk zX4_unlikeAt 9 rfl) ?_
    refine hc1f.mono ?_
    rintro _ m2 ⟨r3, rfl, hm2⟩
    show Ex E MX4_unlikeAt Q 18 [(0, .ref 78), (1, .ref x1), (2, .int x2), (3, .int x3), (4, .int x4)] [.int r3] m2
    refine x_aload_n 0 rfl rfl (dk zX4_unlikeAt 10 rfl) ?_
    refine x_iload_n 2 rfl rfl (dk zX4_unlikeAt 11 rfl) ?_
    refine x_iload 4 rfl (dk zX4_unlikeAt 12 rfl) ?_
    refine x_callV (as := [.int x2, .int x4]) (o := 78) (ci := 4) (st := [.int r3]) rfl okRX4_69 npX4_stampAt ⟨Nat.le_of_ble_eq_true rfl, Nat.le_of_ble_eq_true rfl⟩ k78 (by decide) rfl (Nat.le_of_ble_eq_true rfl) (dk zX4_unlikeAt 13 rfl) ?_
    refine hm2.mono ?_
    rintro _ m4 ⟨r5, rfl, hm4⟩
    show Ex E MX4_unlikeAt Q 25 [(0, .ref 78), (1, .ref x1), (2, .int x2), (3, .int x3), (4, .int x4)] [.int r5, .int r3] m4
    refine x_icmp_eq (tgt := 35) (by decide) (dk zX4_unlikeAt 14 rfl) (fun c6 => ?_) (fun c6 => ?_)
    · have hc6t := hm4.1 c6
      obtain ⟨v7, ev7⟩ : ∃ y : Int32, y = x4 + 1 := ⟨_, rfl⟩
      have hv7 := hc6t v7 ev7
      refine x_iinc (v := v7) (l' := [(0, .ref 78), (1, .ref x1), (2, .int x2), (3, .int x3), (4, .int v7)]) 4 rfl (by rw [ev7]; rfl) [1, 2, 3, 4, 0] rfl (by decide) (dk zX4_unlikeAt 21 rfl) ?_
      refine x_goto (tgt := 5) (by decide) (dk zX4_unlikeAt 22 rfl) ?_
      exact hv7
    · have hc6f := hm4.2 c6
      refine x_iload_n 3 rfl rfl (dk zX4_unlikeAt 15 rfl) ?_
      refine x_iconst (v := 1) (by decide) (dk zX4_unlikeAt 16 rfl) ?_
      refine x_iload 4 rfl (dk zX4_unlikeAt 17 rfl) ?_
      refine x_ishl (dk zX4_unlikeAt 18 rfl) ?_
      refine x_ior (dk zX4_unlikeAt 19 rfl) ?_
      refine x_topi (fun v8 ev8 => ?_)
      have hv8 := hc6f v8 ev8
      refine x_istore_n (k := 3) (l' := [(0, .ref 78), (1, .ref x1), (2, .int x2), (3, .int v8), (4, .int x4)]) [1, 2, 3, 0, 4] rfl rfl (by decide) (dk zX4_unlikeAt 20 rfl) ?_
      obtain ⟨v9, ev9⟩ : ∃ y : Int32, y = x4 + 1 := ⟨_, rfl⟩
      have hv9 := hv8 v9 ev9
      refine x_iinc (v := v9) (l' := [(0, .ref 78), (1, .ref x1), (2, .int x2), (3, .int v8), (4, .int v9)]) 4 rfl (by rw [ev9]; rfl) [1, 2, 3, 4, 0] rfl (by decide) (dk zX4_unlikeAt 21 rfl) ?_
      refine x_goto (tgt := 5) (by decide) (dk zX4_unlikeAt 22 rfl) ?_
      exact hv9
set_option maxRecDepth 20000 in
set_option maxHeartbeats 2000000 in
theorem gX4_letsBy_0 {E : EV} {Q : Po} {μ : Mem} {x1 : Nat} {x2 : Int32} (hk1 : kd x1 = 5) (h : Ex E MX4_letsBy Q 2 [(0, .ref 78), (1, .ref x1), (2, .int x2), (3, .int 0)] [] μ) : Ex E MX4_letsBy Q 0 [(0, .ref 78), (1, .ref x1), (2, .int x2)] [] μ := by
  refine x_iconst (v := 0) (by decide) (dk zX4_letsBy 0 rfl) ?_
  refine x_istore_n (k := 3) (l' := [(0, .ref 78), (1, .ref x1), (2, .int x2), (3, .int 0)]) [1, 2, 3, 0] rfl rfl (by decide) (dk zX4_letsBy 1 rfl) ?_
  exact h
set_option maxRecDepth 20000 in
set_option maxHeartbeats 2000000 in
theorem gX4_letsBy_2 {E : EV} {Q : Po} {μ : Mem} {x1 : Nat} {x2 : Int32} {x3 : Int32} (hk_x1 : kd x1 = 5) (h : (((μ.1 78 4) ≤ x3 → Q (some (.int 0)) μ) ∧ (¬ (μ.1 78 4) ≤ x3 → vp_in x3 12 ∧ (((¬ (μ.1 81 x3.toNatClampNeg) = 1 → ∀ v4 : Int32, v4 = x3 + 1 → Ex E MX4_letsBy Q 2 [(0, .ref 78), (1, .ref x1), (2, .int x2), (3, .int v4)] [] μ) ∧ ((μ.1 81 x3.toNatClampNeg) = 1 → Sp E MX4_unlikeAt [.ref 78, .ref x1, .int x3] μ (fun v m5 => ∃ r6 : Int32, v = some (.int r6) ∧ ((¬ (r6 &&& x2) = 0 → ∀ v8 : Int32, v8 = x3 + 1 → Ex E MX4_letsBy Q 2 [(0, .ref 78), (1, .ref x1), (2, .int x2), (3, .int v8)] [] m5) ∧ ((r6 &&& x2) = 0 → Q (some (.int 1)) m5))))))))) : Ex E MX4_letsBy Q 2 [(0, .ref 78), (1, .ref x1), (2, .int x2), (3, .int x3)] [] μ := by
  refine x_iload_n 3 rfl rfl (dk zX4_letsBy 2 rfl) ?_
  refine x_aload_n 0 rfl rfl (dk zX4_letsBy 3 rfl) ?_
  refine gf4_4 rfl k78 (dk zX4_letsBy 4 rfl) ?_
  refine x_icmp_ge (tgt := 39) (by decide) (dk zX4_letsBy 5 rfl) (fun c1 => ?_) (fun c1 => ?_)
  · have hc1t := h.1 c1
    refine x_iconst (v := 0) (by decide) (dk zX4_letsBy 23 rfl) ?_
    exact x_iret rfl rfl (dk zX4_letsBy 24 rfl) hc1t
  · have hc1f := h.2 c1
    refine x_aload_n 0 rfl rfl (dk zX4_letsBy 6 rfl) ?_
    refine gf4_2 (r := 81) rfl k78 r78_2 (dk zX4_letsBy 7 rfl) ?_
    refine x_iload_n 3 rfl rfl (dk zX4_letsBy 8 rfl) ?_
    have b2 := hc1f.1
    have hb2 := hc1f.2
    refine y_iald (j := x3.toNatClampNeg) k81 l81 b2 rfl (dk zX4_letsBy 9 rfl) ?_
    refine x_iconst (v := 1) (by decide) (dk zX4_letsBy 10 rfl) ?_
    refine x_icmp_ne (tgt := 33) (by decide) (dk zX4_letsBy 11 rfl) (fun c3 => ?_) (fun c3 => ?_)
    · have hc3t := hb2.1 c3
      obtain ⟨v4, ev4⟩ : ∃ y : Int32, y = x3 + 1 := ⟨_, rfl⟩
      have hv4 := hc3t v4 ev4
      refine x_iinc (v := v4) (l' := [(0, .ref 78), (1, .ref x1), (2, .int x2), (3, .int v4)]) 3 rfl (by rw [ev4]; rfl) [1, 2, 3, 0] rfl (by decide) (dk zX4_letsBy 21 rfl) ?_
      refine x_goto (tgt := 2) (by decide) (dk zX4_letsBy 22 rfl) ?_
      exact hv4
    · have hc3f := hb2.2 c3
      refine x_aload_n 0 rfl rfl (dk zX4_letsBy 12 rfl) ?_
      refine x_aload_n 1 rfl rfl (dk zX4_letsBy 13 rfl) ?_
      refine x_iload_n 3 rfl rfl (dk zX4_letsBy 14 rfl) ?_
      refine x_callV (as := [.ref x1, .int x3]) (o := 78) (ci := 4) (st := []) rfl okRX4_47 npX4_unlikeAt ⟨Nat.le_of_ble_eq_true rfl, Nat.le_of_ble_eq_true rfl⟩ k78 (by decide) rfl (Nat.le_of_ble_eq_true rfl) (dk zX4_letsBy 15 rfl) ?_
      refine hc3f.mono ?_
      rintro _ m5 ⟨r6, rfl, hm5⟩
      show Ex E MX4_letsBy Q 26 [(0, .ref 78), (1, .ref x1), (2, .int x2), (3, .int x3)] [.int r6] m5
      refine x_iload_n 2 rfl rfl (dk zX4_letsBy 16 rfl) ?_
      refine x_iand (dk zX4_letsBy 17 rfl) ?_
      refine x_if_ne (tgt := 33) (by decide) (dk zX4_letsBy 18 rfl) (fun c7 => ?_) (fun c7 => ?_)
      · have hc7t := hm5.1 c7
        obtain ⟨v8, ev8⟩ : ∃ y : Int32, y = x3 + 1 := ⟨_, rfl⟩
        have hv8 := hc7t v8 ev8
        refine x_iinc (v := v8) (l' := [(0, .ref 78), (1, .ref x1), (2, .int x2), (3, .int v8)]) 3 rfl (by rw [ev8]; rfl) [1, 2, 3, 0] rfl (by decide) (dk zX4_letsBy 21 rfl) ?_
        refine x_goto (tgt := 2) (by decide) (dk zX4_letsBy 22 rfl) ?_
        exact hv8
      · have hc7f := hm5.2 c7
        refine x_iconst (v := 1) (by decide) (dk zX4_letsBy 19 rfl) ?_
        exact x_iret rfl rfl (dk zX4_letsBy 20 rfl) hc7f
set_option maxRecDepth 20000 in
set_option maxHeartbeats 2000000 in
theorem gX4_unlikeOf_0 {E : EV} {Q : Po} {μ : Mem} {x1 : Int32} {x2 : Int32} (h : Ex E MX4_unlikeOf Q 5 [(0, .ref 78), (1, .int x1), (2, .int x2), (3, .int 0), (4, .int 0)] [] μ) : Ex E MX4_unlikeOf Q 0 [(0, .ref 78), (1, .int x1), (2, .int x2)] [] μ := by
  refine x_iconst (v := 0) (by decide) (dk zX4_unlikeOf 0 rfl) ?_
  refine x_istore_n (k := 3) (l' := [(0, .ref 78), (1, .int x1), (2, .int x2), (3, .int 0)]) [1, 2, 3, 0] rfl rfl (by decide) (dk zX4_unlikeOf 1 rfl) ?_
  refine x_iconst (v := 0) (by decide) (dk zX4_unlikeOf 2 rfl) ?_
  refine x_istoreG (l' := [(0, .ref 78), (1, .int x1), (2, .int x2), (3, .int 0), (4, .int 0)]) [1, 2, 3, 4, 0] rfl (by decide) (dk zX4_unlikeOf 3 rfl) ?_
  exact h
set_option maxRecDepth 20000 in
set_option maxHeartbeats 2000000 in
theorem gX4_unlikeOf_5 {E : EV} {Q : Po} {μ : Mem} {x1 : Int32} {x2 : Int32} {x3 : Int32} {x4 : Int32} (h : ((11 ≤ x4 → Q (some (.int x3)) μ) ∧ (¬ 11 ≤ x4 → Sp E MX4_stampAt [.ref 78, .int x1, .int x4] μ (fun v m2 => ∃ r3 : Int32, v = some (.int r3) ∧ Sp E MX4_stampAt [.ref 78, .int x2, .int x4] m2 (fun v m4 => ∃ r5 : Int32, v = some (.int r5) ∧ ((r3 = r5 → ∀ v7 : Int32, v7 = x4 + 1 → Ex E MX4_unlikeOf Q 5 [(0, .ref 78), (1, .int x1), (2, .int x2), (3, .int x3), (4, .int v7)] [] m4) ∧ (¬ r3 = r5 → ∀ v8 : Int32, v8 = x3 ||| (1 <<< ((x4 : Int32) &&& 31)) → ∀ v9 : Int32, v9 = x4 + 1 → Ex E MX4_unlikeOf Q 5 [(0, .ref 78), (1, .int x1), (2, .int x2), (3, .int v8), (4, .int v9)] [] m4))))))) : Ex E MX4_unlikeOf Q 5 [(0, .ref 78), (1, .int x1), (2, .int x2), (3, .int x3), (4, .int x4)] [] μ := by
  refine x_iload 4 rfl (dk zX4_unlikeOf 4 rfl) ?_
  refine x_bipush (v := 11) (by decide) (dk zX4_unlikeOf 5 rfl) ?_
  refine x_icmp_ge (tgt := 42) (by decide) (dk zX4_unlikeOf 6 rfl) (fun c1 => ?_) (fun c1 => ?_)
  · have hc1t := h.1 c1
    refine x_iload_n 3 rfl rfl (dk zX4_unlikeOf 24 rfl) ?_
    exact x_iret (ty := .int) rfl rfl (dk zX4_unlikeOf 25 rfl) hc1t
  · have hc1f := h.2 c1
    refine x_aload_n 0 rfl rfl (dk zX4_unlikeOf 7 rfl) ?_
    refine x_iload_n 1 rfl rfl (dk zX4_unlikeOf 8 rfl) ?_
    refine x_iload 4 rfl (dk zX4_unlikeOf 9 rfl) ?_
    refine x_callV (as := [.int x1, .int x4]) (o := 78) (ci := 4) (st := []) rfl okRX4_69 npX4_stampAt ⟨Nat.le_of_ble_eq_true rfl, Nat.le_of_ble_eq_true rfl⟩ k78 (by decide) rfl (Nat.le_of_ble_eq_true rfl) (dk zX4_unlikeOf 10 rfl) ?_
    refine hc1f.mono ?_
    rintro _ m2 ⟨r3, rfl, hm2⟩
    show Ex E MX4_unlikeOf Q 19 [(0, .ref 78), (1, .int x1), (2, .int x2), (3, .int x3), (4, .int x4)] [.int r3] m2
    refine x_aload_n 0 rfl rfl (dk zX4_unlikeOf 11 rfl) ?_
    refine x_iload_n 2 rfl rfl (dk zX4_unlikeOf 12 rfl) ?_
    refine x_iload 4 rfl (dk zX4_unlikeOf 13 rfl) ?_
    refine x_callV (as := [.int x2, .int x4]) (o := 78) (ci := 4) (st := [.int r3]) rfl okRX4_69 npX4_stampAt ⟨Nat.le_of_ble_eq_true rfl, Nat.le_of_ble_eq_true rfl⟩ k78 (by decide) rfl (Nat.le_of_ble_eq_true rfl) (dk zX4_unlikeOf 14 rfl) ?_
    refine hm2.mono ?_
    rintro _ m4 ⟨r5, rfl, hm4⟩
    show Ex E MX4_unlikeOf Q 26 [(0, .ref 78), (1, .int x1), (2, .int x2), (3, .int x3), (4, .int x4)] [.int r5, .int r3] m4
    refine x_icmp_eq (tgt := 36) (by decide) (dk zX4_unlikeOf 15 rfl) (fun c6 => ?_) (fun c6 => ?_)
    · have hc6t := hm4.1 c6
      obtain ⟨v7, ev7⟩ : ∃ y : Int32, y = x4 + 1 := ⟨_, rfl⟩
      have hv7 := hc6t v7 ev7
      refine x_iinc (v := v7) (l' := [(0, .ref 78), (1, .int x1), (2, .int x2), (3, .int x3), (4, .int v7)]) 4 rfl (by rw [ev7]; rfl) [1, 2, 3, 4, 0] rfl (by decide) (dk zX4_unlikeOf 22 rfl) ?_
      refine x_goto (tgt := 5) (by decide) (dk zX4_unlikeOf 23 rfl) ?_
      exact hv7
    · have hc6f := hm4.2 c6
      refine x_iload_n 3 rfl rfl (dk zX4_unlikeOf 16 rfl) ?_
      refine x_iconst (v := 1) (by decide) (dk zX4_unlikeOf 17 rfl) ?_
      refine x_iload 4 rfl (dk zX4_unlikeOf 18 rfl) ?_
      refine x_ishl (dk zX4_unlikeOf 19 rfl) ?_
      refine x_ior (dk zX4_unlikeOf 20 rfl) ?_
      refine x_topi (fun v8 ev8 => ?_)
      have hv8 := hc6f v8 ev8
      refine x_istore_n (k := 3) (l' := [(0, .ref 78), (1, .int x1), (2, .int x2), (3, .int v8), (4, .int x4)]) [1, 2, 3, 0, 4] rfl rfl (by decide) (dk zX4_unlikeOf 21 rfl) ?_
      obtain ⟨v9, ev9⟩ : ∃ y : Int32, y = x4 + 1 := ⟨_, rfl⟩
      have hv9 := hv8 v9 ev9
      refine x_iinc (v := v9) (l' := [(0, .ref 78), (1, .int x1), (2, .int x2), (3, .int v8), (4, .int v9)]) 4 rfl (by rw [ev9]; rfl) [1, 2, 3, 4, 0] rfl (by decide) (dk zX4_unlikeOf 22 rfl) ?_
      refine x_goto (tgt := 5) (by decide) (dk zX4_unlikeOf 23 rfl) ?_
      exact hv9
set_option maxRecDepth 20000 in
set_option maxHeartbeats 2000000 in
theorem gX4_isLetBy_0 {E : EV} {Q : Po} {μ : Mem} {x1 : Int32} {x2 : Int32} (h : Ex E MX4_isLetBy Q 2 [(0, .ref 78), (1, .int x1), (2, .int x2), (3, .int 0)] [] μ) : Ex E MX4_isLetBy Q 0 [(0, .ref 78), (1, .int x1), (2, .int x2)] [] μ := by
  refine x_iconst (v := 0) (by decide) (dk zX4_isLetBy 0 rfl) ?_
  refine x_istore_n (k := 3) (l' := [(0, .ref 78), (1, .int x1), (2, .int x2), (3, .int 0)]) [1, 2, 3, 0] rfl rfl (by decide) (dk zX4_isLetBy 1 rfl) ?_
  exact h
set_option maxRecDepth 20000 in
set_option maxHeartbeats 2000000 in
theorem gX4_isLetBy_2 {E : EV} {Q : Po} {μ : Mem} {x1 : Int32} {x2 : Int32} {x3 : Int32} (h : (((μ.1 78 4) ≤ x3 → Q (some (.int 0)) μ) ∧ (¬ (μ.1 78 4) ≤ x3 → vp_in x3 12 ∧ (((¬ (μ.1 81 x3.toNatClampNeg) = 1 → ∀ v4 : Int32, v4 = x3 + 1 → Ex E MX4_isLetBy Q 2 [(0, .ref 78), (1, .int x1), (2, .int x2), (3, .int v4)] [] μ) ∧ ((μ.1 81 x3.toNatClampNeg) = 1 → Sp E MX4_unlikeOf [.ref 78, .int x1, .int x3] μ (fun v m5 => ∃ r6 : Int32, v = some (.int r6) ∧ ((¬ (r6 &&& x2) = 0 → ∀ v8 : Int32, v8 = x3 + 1 → Ex E MX4_isLetBy Q 2 [(0, .ref 78), (1, .int x1), (2, .int x2), (3, .int v8)] [] m5) ∧ ((r6 &&& x2) = 0 → Q (some (.int 1)) m5))))))))) : Ex E MX4_isLetBy Q 2 [(0, .ref 78), (1, .int x1), (2, .int x2), (3, .int x3)] [] μ := by
  refine x_iload_n 3 rfl rfl (dk zX4_isLetBy 2 rfl) ?_
  refine x_aload_n 0 rfl rfl (dk zX4_isLetBy 3 rfl) ?_
  refine gf4_4 rfl k78 (dk zX4_isLetBy 4 rfl) ?_
  refine x_icmp_ge (tgt := 39) (by decide) (dk zX4_isLetBy 5 rfl) (fun c1 => ?_) (fun c1 => ?_)
  · have hc1t := h.1 c1
    refine x_iconst (v := 0) (by decide) (dk zX4_isLetBy 23 rfl) ?_
    exact x_iret rfl rfl (dk zX4_isLetBy 24 rfl) hc1t
  · have hc1f := h.2 c1
    refine x_aload_n 0 rfl rfl (dk zX4_isLetBy 6 rfl) ?_
    refine gf4_2 (r := 81) rfl k78 r78_2 (dk zX4_isLetBy 7 rfl) ?_
    refine x_iload_n 3 rfl rfl (dk zX4_isLetBy 8 rfl) ?_
    have b2 := hc1f.1
    have hb2 := hc1f.2
    refine y_iald (j := x3.toNatClampNeg) k81 l81 b2 rfl (dk zX4_isLetBy 9 rfl) ?_
    refine x_iconst (v := 1) (by decide) (dk zX4_isLetBy 10 rfl) ?_
    refine x_icmp_ne (tgt := 33) (by decide) (dk zX4_isLetBy 11 rfl) (fun c3 => ?_) (fun c3 => ?_)
    · have hc3t := hb2.1 c3
      obtain ⟨v4, ev4⟩ : ∃ y : Int32, y = x3 + 1 := ⟨_, rfl⟩
      have hv4 := hc3t v4 ev4
      refine x_iinc (v := v4) (l' := [(0, .ref 78), (1, .int x1), (2, .int x2), (3, .int v4)]) 3 rfl (by rw [ev4]; rfl) [1, 2, 3, 0] rfl (by decide) (dk zX4_isLetBy 21 rfl) ?_
      refine x_goto (tgt := 2) (by decide) (dk zX4_isLetBy 22 rfl) ?_
      exact hv4
    · have hc3f := hb2.2 c3
      refine x_aload_n 0 rfl rfl (dk zX4_isLetBy 12 rfl) ?_
      refine x_iload_n 1 rfl rfl (dk zX4_isLetBy 13 rfl) ?_
      refine x_iload_n 3 rfl rfl (dk zX4_isLetBy 14 rfl) ?_
      refine x_callV (as := [.int x1, .int x3]) (o := 78) (ci := 4) (st := []) rfl okRX4_66 npX4_unlikeOf ⟨Nat.le_of_ble_eq_true rfl, Nat.le_of_ble_eq_true rfl⟩ k78 (by decide) rfl (Nat.le_of_ble_eq_true rfl) (dk zX4_isLetBy 15 rfl) ?_
      refine hc3f.mono ?_
      rintro _ m5 ⟨r6, rfl, hm5⟩
      show Ex E MX4_isLetBy Q 26 [(0, .ref 78), (1, .int x1), (2, .int x2), (3, .int x3)] [.int r6] m5
      refine x_iload_n 2 rfl rfl (dk zX4_isLetBy 16 rfl) ?_
      refine x_iand (dk zX4_isLetBy 17 rfl) ?_
      refine x_if_ne (tgt := 33) (by decide) (dk zX4_isLetBy 18 rfl) (fun c7 => ?_) (fun c7 => ?_)
      · have hc7t := hm5.1 c7
        obtain ⟨v8, ev8⟩ : ∃ y : Int32, y = x3 + 1 := ⟨_, rfl⟩
        have hv8 := hc7t v8 ev8
        refine x_iinc (v := v8) (l' := [(0, .ref 78), (1, .int x1), (2, .int x2), (3, .int v8)]) 3 rfl (by rw [ev8]; rfl) [1, 2, 3, 0] rfl (by decide) (dk zX4_isLetBy 21 rfl) ?_
        refine x_goto (tgt := 2) (by decide) (dk zX4_isLetBy 22 rfl) ?_
        exact hv8
      · have hc7f := hm5.2 c7
        refine x_iconst (v := 1) (by decide) (dk zX4_isLetBy 19 rfl) ?_
        exact x_iret rfl rfl (dk zX4_isLetBy 20 rfl) hc7f
set_option maxRecDepth 20000 in
set_option maxHeartbeats 2000000 in
theorem gX4_slipping_0 {E : EV} {Q : Po} {μ : Mem} {x1 : Int32} (h : Ex E MX4_slipping Q 4 [(0, .ref 78), (1, .int x1), (2, .int 0), (3, .int 0)] [] μ) : Ex E MX4_slipping Q 0 [(0, .ref 78), (1, .int x1)] [] μ := by
  refine x_iconst (v := 0) (by decide) (dk zX4_slipping 0 rfl) ?_
  refine x_istore_n (k := 2) (l' := [(0, .ref 78), (1, .int x1), (2, .int 0)]) [1, 2, 0] rfl rfl (by decide) (dk zX4_slipping 1 rfl) ?_
  refine x_iconst (v := 0) (by decide) (dk zX4_slipping 2 rfl) ?_
  refine x_istore_n (k := 3) (l' := [(0, .ref 78), (1, .int x1), (2, .int 0), (3, .int 0)]) [1, 2, 3, 0] rfl rfl (by decide) (dk zX4_slipping 3 rfl) ?_
  exact h
set_option maxRecDepth 20000 in
set_option maxHeartbeats 2000000 in
theorem gX4_slipping_4 {E : EV} {Q : Po} {μ : Mem} {x1 : Int32} {x2 : Int32} {x3 : Int32} (h : (((μ.1 78 4) ≤ x3 → Q (some (.int x2)) μ) ∧ (¬ (μ.1 78 4) ≤ x3 → vp_in x3 12 ∧ (((¬ (μ.1 81 x3.toNatClampNeg) = 0 → ∀ v4 : Int32, v4 = x3 + 1 → Ex E MX4_slipping Q 4 [(0, .ref 78), (1, .int x1), (2, .int x2), (3, .int v4)] [] μ) ∧ ((μ.1 81 x3.toNatClampNeg) = 0 → Sp E MX4_isLetBy [.ref 78, .int x3, .int x1] μ (fun v m5 => ∃ r6 : Int32, v = some (.int r6) ∧ ((r6 = 0 → ∀ v8 : Int32, v8 = x3 + 1 → Ex E MX4_slipping Q 4 [(0, .ref 78), (1, .int x1), (2, .int x2), (3, .int v8)] [] m5) ∧ (¬ r6 = 0 → ∀ v9 : Int32, v9 = x2 + 1 → ∀ v10 : Int32, v10 = x3 + 1 → Ex E MX4_slipping Q 4 [(0, .ref 78), (1, .int x1), (2, .int v9), (3, .int v10)] [] m5))))))))) : Ex E MX4_slipping Q 4 [(0, .ref 78), (1, .int x1), (2, .int x2), (3, .int x3)] [] μ := by
  refine x_iload_n 3 rfl rfl (dk zX4_slipping 4 rfl) ?_
  refine x_aload_n 0 rfl rfl (dk zX4_slipping 5 rfl) ?_
  refine gf4_4 rfl k78 (dk zX4_slipping 6 rfl) ?_
  refine x_icmp_ge (tgt := 39) (by decide) (dk zX4_slipping 7 rfl) (fun c1 => ?_) (fun c1 => ?_)
  · have hc1t := h.1 c1
    refine x_iload_n 2 rfl rfl (dk zX4_slipping 21 rfl) ?_
    exact x_iret (ty := .int) rfl rfl (dk zX4_slipping 22 rfl) hc1t
  · have hc1f := h.2 c1
    refine x_aload_n 0 rfl rfl (dk zX4_slipping 8 rfl) ?_
    refine gf4_2 (r := 81) rfl k78 r78_2 (dk zX4_slipping 9 rfl) ?_
    refine x_iload_n 3 rfl rfl (dk zX4_slipping 10 rfl) ?_
    have b2 := hc1f.1
    have hb2 := hc1f.2
    refine y_iald (j := x3.toNatClampNeg) k81 l81 b2 rfl (dk zX4_slipping 11 rfl) ?_
    refine x_if_ne (tgt := 33) (by decide) (dk zX4_slipping 12 rfl) (fun c3 => ?_) (fun c3 => ?_)
    · have hc3t := hb2.1 c3
      obtain ⟨v4, ev4⟩ : ∃ y : Int32, y = x3 + 1 := ⟨_, rfl⟩
      have hv4 := hc3t v4 ev4
      refine x_iinc (v := v4) (l' := [(0, .ref 78), (1, .int x1), (2, .int x2), (3, .int v4)]) 3 rfl (by rw [ev4]; rfl) [1, 2, 3, 0] rfl (by decide) (dk zX4_slipping 19 rfl) ?_
      refine x_goto (tgt := 4) (by decide) (dk zX4_slipping 20 rfl) ?_
      exact hv4
    · have hc3f := hb2.2 c3
      refine x_aload_n 0 rfl rfl (dk zX4_slipping 13 rfl) ?_
      refine x_iload_n 3 rfl rfl (dk zX4_slipping 14 rfl) ?_
      refine x_iload_n 1 rfl rfl (dk zX4_slipping 15 rfl) ?_
      refine x_callV (as := [.int x3, .int x1]) (o := 78) (ci := 4) (st := []) rfl okRX4_51 npX4_isLetBy ⟨Nat.le_of_ble_eq_true rfl, Nat.le_of_ble_eq_true rfl⟩ k78 (by decide) rfl (Nat.le_of_ble_eq_true rfl) (dk zX4_slipping 16 rfl) ?_
      refine hc3f.mono ?_
      rintro _ m5 ⟨r6, rfl, hm5⟩
      show Ex E MX4_slipping Q 27 [(0, .ref 78), (1, .int x1), (2, .int x2), (3, .int x3)] [.int r6] m5
      refine x_if_eq (tgt := 33) (by decide) (dk zX4_slipping 17 rfl) (fun c7 => ?_) (fun c7 => ?_)
      · have hc7t := hm5.1 c7
        obtain ⟨v8, ev8⟩ : ∃ y : Int32, y = x3 + 1 := ⟨_, rfl⟩
        have hv8 := hc7t v8 ev8
        refine x_iinc (v := v8) (l' := [(0, .ref 78), (1, .int x1), (2, .int x2), (3, .int v8)]) 3 rfl (by rw [ev8]; rfl) [1, 2, 3, 0] rfl (by decide) (dk zX4_slipping 19 rfl) ?_
        refine x_goto (tgt := 4) (by decide) (dk zX4_slipping 20 rfl) ?_
        exact hv8
      · have hc7f := hm5.2 c7
        obtain ⟨v9, ev9⟩ : ∃ y : Int32, y = x2 + 1 := ⟨_, rfl⟩
        have hv9 := hc7f v9 ev9
        refine x_iinc (v := v9) (l' := [(0, .ref 78), (1, .int x1), (2, .int v9), (3, .int x3)]) 2 rfl (by rw [ev9]; rfl) [1, 2, 0, 3] rfl (by decide) (dk zX4_slipping 18 rfl) ?_
        obtain ⟨v10, ev10⟩ : ∃ y : Int32, y = x3 + 1 := ⟨_, rfl⟩
        have hv10 := hv9 v10 ev10
        refine x_iinc (v := v10) (l' := [(0, .ref 78), (1, .int x1), (2, .int v9), (3, .int v10)]) 3 rfl (by rw [ev10]; rfl) [1, 2, 3, 0] rfl (by decide) (dk zX4_slipping 19 rfl) ?_
        refine x_goto (tgt := 4) (by decide) (dk zX4_slipping 20 rfl) ?_
        exact hv10
set_option maxRecDepth 20000 in
set_option maxHeartbeats 2000000 in
theorem gX4_gatherUnlike_0 {E : EV} {Q : Po} {μ : Mem}  (h : Ex E MX4_gatherUnlike Q 4 [(0, .ref 78), (1, .int 0), (2, .int 0)] [] μ) : Ex E MX4_gatherUnlike Q 0 [(0, .ref 78)] [] μ := by
  refine x_iconst (v := 0) (by decide) (dk zX4_gatherUnlike 0 rfl) ?_
  refine x_istore_n (k := 1) (l' := [(0, .ref 78), (1, .int 0)]) [1, 0] rfl rfl (by decide) (dk zX4_gatherUnlike 1 rfl) ?_
  refine x_iconst (v := 0) (by decide) (dk zX4_gatherUnlike 2 rfl) ?_
  refine x_istore_n (k := 2) (l' := [(0, .ref 78), (1, .int 0), (2, .int 0)]) [1, 2, 0] rfl rfl (by decide) (dk zX4_gatherUnlike 3 rfl) ?_
  exact h
set_option maxRecDepth 20000 in
set_option maxHeartbeats 2000000 in
theorem gX4_gatherUnlike_4 {E : EV} {Q : Po} {μ : Mem} {x1 : Int32} {x2 : Int32} (h : (((μ.1 78 4) ≤ x2 → Q (some (.int x1)) μ) ∧ (¬ (μ.1 78 4) ≤ x2 → Ex E MX4_gatherUnlike Q 14 [(0, .ref 78), (1, .int x1), (2, .int x2), (3, .int 0)] [] μ))) : Ex E MX4_gatherUnlike Q 4 [(0, .ref 78), (1, .int x1), (2, .int x2)] [] μ := by
  refine x_iload_n 2 rfl rfl (dk zX4_gatherUnlike 4 rfl) ?_
  refine x_aload_n 0 rfl rfl (dk zX4_gatherUnlike 5 rfl) ?_
  refine gf4_4 rfl k78 (dk zX4_gatherUnlike 6 rfl) ?_
  refine x_icmp_ge (tgt := 68) (by decide) (dk zX4_gatherUnlike 7 rfl) (fun c1 => ?_) (fun c1 => ?_)
  · have hc1t := h.1 c1
    refine x_iload_n 1 rfl rfl (dk zX4_gatherUnlike 38 rfl) ?_
    exact x_iret (ty := .int) rfl rfl (dk zX4_gatherUnlike 39 rfl) hc1t
  · have hc1f := h.2 c1
    refine x_iconst (v := 0) (by decide) (dk zX4_gatherUnlike 8 rfl) ?_
    refine x_istore_n (k := 3) (l' := [(0, .ref 78), (1, .int x1), (2, .int x2), (3, .int 0)]) [1, 2, 3, 0] rfl rfl (by decide) (dk zX4_gatherUnlike 9 rfl) ?_
    exact hc1f
set_option maxRecDepth 20000 in
set_option maxHeartbeats 2000000 in
theorem gX4_gatherUnlike_14 {E : EV} {Q : Po} {μ : Mem} {x1 : Int32} {x2 : Int32} {x3 : Int32} (h : (((μ.1 78 4) ≤ x3 → ∀ v2 : Int32, v2 = x2 + 1 → Ex E MX4_gatherUnlike Q 4 [(0, .ref 78), (1, .int x1), (2, .int v2)] [] μ) ∧ (¬ (μ.1 78 4) ≤ x3 → vp_in x2 12 ∧ (((¬ (μ.1 81 x2.toNatClampNeg) = 0 → ∀ v5 : Int32, v5 = x3 + 1 → Ex E MX4_gatherUnlike Q 14 [(0, .ref 78), (1, .int x1), (2, .int x2), (3, .int v5)] [] μ) ∧ ((μ.1 81 x2.toNatClampNeg) = 0 → vp_in x3 12 ∧ (((¬ (μ.1 81 x3.toNatClampNeg) = 1 → ∀ v8 : Int32, v8 = x3 + 1 → Ex E MX4_gatherUnlike Q 14 [(0, .ref 78), (1, .int x1), (2, .int x2), (3, .int v8)] [] μ) ∧ ((μ.1 81 x3.toNatClampNeg) = 1 → Sp E MX4_unlikeOf [.ref 78, .int x2, .int x3] μ (fun v m9 => ∃ r10 : Int32, v = some (.int r10) ∧ vp_in x1 144 ∧ (∀ v12 : Int32, v12 = x1 + 1 → ∀ v13 : Int32, v13 = x3 + 1 → Ex E MX4_gatherUnlike Q 14 [(0, .ref 78), (1, .int v12), (2, .int x2), (3, .int v13)] [] (mI m9 82 x1.toNatClampNeg r10)))))))))))) : Ex E MX4_gatherUnlike Q 14 [(0, .ref 78), (1, .int x1), (2, .int x2), (3, .int x3)] [] μ := by
  refine x_iload_n 3 rfl rfl (dk zX4_gatherUnlike 10 rfl) ?_
  refine x_aload_n 0 rfl rfl (dk zX4_gatherUnlike 11 rfl) ?_
  refine gf4_4 rfl k78 (dk zX4_gatherUnlike 12 rfl) ?_
  refine x_icmp_ge (tgt := 62) (by decide) (dk zX4_gatherUnlike 13 rfl) (fun c1 => ?_) (fun c1 => ?_)
  · have hc1t := h.1 c1
    obtain ⟨v2, ev2⟩ : ∃ y : Int32, y = x2 + 1 := ⟨_, rfl⟩
    have hv2 := hc1t v2 ev2
    refine x_iinc (v := v2) (l' := [(0, .ref 78), (1, .int x1), (2, .int v2), (3, .int x3)]) 2 rfl (by rw [ev2]; rfl) [1, 2, 0, 3] rfl (by decide) (dk zX4_gatherUnlike 36 rfl) ?_
    refine x_goto (tgt := 4) (by decide) (dk zX4_gatherUnlike 37 rfl) ?_
    exact x_sub [0, 1, 2] rfl hv2
  · have hc1f := h.2 c1
    refine x_aload_n 0 rfl rfl (dk zX4_gatherUnlike 14 rfl) ?_
    refine gf4_2 (r := 81) rfl k78 r78_2 (dk zX4_gatherUnlike 15 rfl) ?_
    refine x_iload_n 2 rfl rfl (dk zX4_gatherUnlike 16 rfl) ?_
    have b3 := hc1f.1
    have hb3 := hc1f.2
    refine y_iald (j := x2.toNatClampNeg) k81 l81 b3 rfl (dk zX4_gatherUnlike 17 rfl) ?_
    refine x_if_ne (tgt := 56) (by decide) (dk zX4_gatherUnlike 18 rfl) (fun c4 => ?_) (fun c4 => ?_)
    · have hc4t := hb3.1 c4
      obtain ⟨v5, ev5⟩ : ∃ y : Int32, y = x3 + 1 := ⟨_, rfl⟩
      have hv5 := hc4t v5 ev5
      refine x_iinc (v := v5) (l' := [(0, .ref 78), (1, .int x1), (2, .int x2), (3, .int v5)]) 3 rfl (by rw [ev5]; rfl) [1, 2, 3, 0] rfl (by decide) (dk zX4_gatherUnlike 34 rfl) ?_
      refine x_goto (tgt := 14) (by decide) (dk zX4_gatherUnlike 35 rfl) ?_
      exact hv5
    · have hc4f := hb3.2 c4
      refine x_aload_n 0 rfl rfl (dk zX4_gatherUnlike 19 rfl) ?_
      refine gf4_2 (r := 81) rfl k78 r78_2 (dk zX4_gatherUnlike 20 rfl) ?_
      refine x_iload_n 3 rfl rfl (dk zX4_gatherUnlike 21 rfl) ?_
      have b6 := hc4f.1
      have hb6 := hc4f.2
      refine y_iald (j := x3.toNatClampNeg) k81 l81 b6 rfl (dk zX4_gatherUnlike 22 rfl) ?_
      refine x_iconst (v := 1) (by decide) (dk zX4_gatherUnlike 23 rfl) ?_
      refine x_icmp_ne (tgt := 56) (by decide) (dk zX4_gatherUnlike 24 rfl) (fun c7 => ?_) (fun c7 => ?_)
      · have hc7t := hb6.1 c7
        obtain ⟨v8, ev8⟩ : ∃ y : Int32, y = x3 + 1 := ⟨_, rfl⟩
        have hv8 := hc7t v8 ev8
        refine x_iinc (v := v8) (l' := [(0, .ref 78), (1, .int x1), (2, .int x2), (3, .int v8)]) 3 rfl (by rw [ev8]; rfl) [1, 2, 3, 0] rfl (by decide) (dk zX4_gatherUnlike 34 rfl) ?_
        refine x_goto (tgt := 14) (by decide) (dk zX4_gatherUnlike 35 rfl) ?_
        exact hv8
      · have hc7f := hb6.2 c7
        refine x_aload_n 0 rfl rfl (dk zX4_gatherUnlike 25 rfl) ?_
        refine gf4_3 (r := 82) rfl k78 r78_3 (dk zX4_gatherUnlike 26 rfl) ?_
        refine x_iload_n 1 rfl rfl (dk zX4_gatherUnlike 27 rfl) ?_
        refine x_aload_n 0 rfl rfl (dk zX4_gatherUnlike 28 rfl) ?_
        refine x_iload_n 2 rfl rfl (dk zX4_gatherUnlike 29 rfl) ?_
        refine x_iload_n 3 rfl rfl (dk zX4_gatherUnlike 30 rfl) ?_
        refine x_callV (as := [.int x2, .int x3]) (o := 78) (ci := 4) (st := [.int x1, .ref 82]) rfl okRX4_66 npX4_unlikeOf ⟨Nat.le_of_ble_eq_true rfl, Nat.le_of_ble_eq_true rfl⟩ k78 (by decide) rfl (Nat.le_of_ble_eq_true rfl) (dk zX4_gatherUnlike 31 rfl) ?_
        refine hc7f.mono ?_
        rintro _ m9 ⟨r10, rfl, hm9⟩
        show Ex E MX4_gatherUnlike Q 52 [(0, .ref 78), (1, .int x1), (2, .int x2), (3, .int x3)] [.int r10, .int x1, .ref 82] m9
        have b11 := hm9.1
        have hb11 := hm9.2
        refine y_iast (j := x1.toNatClampNeg) k82 l82 b11 rfl (dk zX4_gatherUnlike 32 rfl) ?_
        obtain ⟨v12, ev12⟩ : ∃ y : Int32, y = x1 + 1 := ⟨_, rfl⟩
        have hv12 := hb11 v12 ev12
        refine x_iinc (v := v12) (l' := [(0, .ref 78), (1, .int v12), (2, .int x2), (3, .int x3)]) 1 rfl (by rw [ev12]; rfl) [1, 0, 2, 3] rfl (by decide) (dk zX4_gatherUnlike 33 rfl) ?_
        obtain ⟨v13, ev13⟩ : ∃ y : Int32, y = x3 + 1 := ⟨_, rfl⟩
        have hv13 := hv12 v13 ev13
        refine x_iinc (v := v13) (l' := [(0, .ref 78), (1, .int v12), (2, .int x2), (3, .int v13)]) 3 rfl (by rw [ev13]; rfl) [1, 2, 3, 0] rfl (by decide) (dk zX4_gatherUnlike 34 rfl) ?_
        refine x_goto (tgt := 14) (by decide) (dk zX4_gatherUnlike 35 rfl) ?_
        exact hv13
set_option maxRecDepth 20000 in
set_option maxHeartbeats 2000000 in
theorem gX4_partsAll_0 {E : EV} {Q : Po} {μ : Mem} {x1 : Int32} {x2 : Int32} (h : Ex E MX4_partsAll Q 2 [(0, .ref 78), (1, .int x1), (2, .int x2), (3, .int 0)] [] μ) : Ex E MX4_partsAll Q 0 [(0, .ref 78), (1, .int x1), (2, .int x2)] [] μ := by
  refine x_iconst (v := 0) (by decide) (dk zX4_partsAll 0 rfl) ?_
  refine x_istore_n (k := 3) (l' := [(0, .ref 78), (1, .int x1), (2, .int x2), (3, .int 0)]) [1, 2, 3, 0] rfl rfl (by decide) (dk zX4_partsAll 1 rfl) ?_
  exact h
set_option maxRecDepth 20000 in
set_option maxHeartbeats 2000000 in
theorem gX4_partsAll_2 {E : EV} {Q : Po} {μ : Mem} {x1 : Int32} {x2 : Int32} {x3 : Int32} (h : ((x2 ≤ x3 → Q (some (.int 1)) μ) ∧ (¬ x2 ≤ x3 → vp_in x3 144 ∧ (((¬ ((μ.1 82 x3.toNatClampNeg) &&& x1) = 0 → ∀ v4 : Int32, v4 = x3 + 1 → Ex E MX4_partsAll Q 2 [(0, .ref 78), (1, .int x1), (2, .int x2), (3, .int v4)] [] μ) ∧ (((μ.1 82 x3.toNatClampNeg) &&& x1) = 0 → Q (some (.int 0)) μ)))))) : Ex E MX4_partsAll Q 2 [(0, .ref 78), (1, .int x1), (2, .int x2), (3, .int x3)] [] μ := by
  refine x_iload_n 3 rfl rfl (dk zX4_partsAll 2 rfl) ?_
  refine x_iload_n 2 rfl rfl (dk zX4_partsAll 3 rfl) ?_
  refine x_icmp_ge (tgt := 26) (by decide) (dk zX4_partsAll 4 rfl) (fun c1 => ?_) (fun c1 => ?_)
  · have hc1t := h.1 c1
    refine x_iconst (v := 1) (by decide) (dk zX4_partsAll 16 rfl) ?_
    exact x_iret rfl rfl (dk zX4_partsAll 17 rfl) hc1t
  · have hc1f := h.2 c1
    refine x_aload_n 0 rfl rfl (dk zX4_partsAll 5 rfl) ?_
    refine gf4_3 (r := 82) rfl k78 r78_3 (dk zX4_partsAll 6 rfl) ?_
    refine x_iload_n 3 rfl rfl (dk zX4_partsAll 7 rfl) ?_
    have b2 := hc1f.1
    have hb2 := hc1f.2
    refine y_iald (j := x3.toNatClampNeg) k82 l82 b2 rfl (dk zX4_partsAll 8 rfl) ?_
    refine x_iload_n 1 rfl rfl (dk zX4_partsAll 9 rfl) ?_
    refine x_iand (dk zX4_partsAll 10 rfl) ?_
    refine x_if_ne (tgt := 20) (by decide) (dk zX4_partsAll 11 rfl) (fun c3 => ?_) (fun c3 => ?_)
    · have hc3t := hb2.1 c3
      obtain ⟨v4, ev4⟩ : ∃ y : Int32, y = x3 + 1 := ⟨_, rfl⟩
      have hv4 := hc3t v4 ev4
      refine x_iinc (v := v4) (l' := [(0, .ref 78), (1, .int x1), (2, .int x2), (3, .int v4)]) 3 rfl (by rw [ev4]; rfl) [1, 2, 3, 0] rfl (by decide) (dk zX4_partsAll 14 rfl) ?_
      refine x_goto (tgt := 2) (by decide) (dk zX4_partsAll 15 rfl) ?_
      exact hv4
    · have hc3f := hb2.2 c3
      refine x_iconst (v := 0) (by decide) (dk zX4_partsAll 12 rfl) ?_
      exact x_iret rfl rfl (dk zX4_partsAll 13 rfl) hc3f
set_option maxRecDepth 20000 in
set_option maxHeartbeats 2000000 in
theorem gX4_fewestPlaces_0 {E : EV} {Q : Po} {μ : Mem}  (h : Sp E MX4_gatherUnlike [.ref 78] μ (fun v m1 => ∃ r2 : Int32, v = some (.int r2) ∧ Ex E MX4_fewestPlaces Q 9 [(0, .ref 78), (1, .int r2), (2, .int 0), (3, .int 0)] [] m1)) : Ex E MX4_fewestPlaces Q 0 [(0, .ref 78)] [] μ := by
  refine x_aload_n 0 rfl rfl (dk zX4_fewestPlaces 0 rfl) ?_
  refine x_callV (as := []) (o := 78) (ci := 4) (st := []) rfl okRX4_55 npX4_gatherUnlike ⟨Nat.le_of_ble_eq_true rfl, Nat.le_of_ble_eq_true rfl⟩ k78 (by decide) rfl (Nat.le_of_ble_eq_true rfl) (dk zX4_fewestPlaces 1 rfl) ?_
  refine h.mono ?_
  rintro _ m1 ⟨r2, rfl, hm1⟩
  show Ex E MX4_fewestPlaces Q 4 [(0, .ref 78)] [.int r2] m1
  refine x_istore_n (k := 1) (l' := [(0, .ref 78), (1, .int r2)]) [1, 0] rfl rfl (by decide) (dk zX4_fewestPlaces 2 rfl) ?_
  refine x_iconst (v := 0) (by decide) (dk zX4_fewestPlaces 3 rfl) ?_
  refine x_istore_n (k := 2) (l' := [(0, .ref 78), (1, .int r2), (2, .int 0)]) [1, 2, 0] rfl rfl (by decide) (dk zX4_fewestPlaces 4 rfl) ?_
  refine x_iconst (v := 0) (by decide) (dk zX4_fewestPlaces 5 rfl) ?_
  refine x_istore_n (k := 3) (l' := [(0, .ref 78), (1, .int r2), (2, .int 0), (3, .int 0)]) [1, 2, 3, 0] rfl rfl (by decide) (dk zX4_fewestPlaces 6 rfl) ?_
  exact hm1
set_option maxRecDepth 20000 in
set_option maxHeartbeats 2000000 in
theorem gX4_fewestPlaces_9 {E : EV} {Q : Po} {μ : Mem} {x1 : Int32} {x2 : Int32} {x3 : Int32} (h : ((x1 ≤ x3 → Ex E MX4_fewestPlaces Q 38 [(0, .ref 78), (1, .int x1), (2, .int x2), (3, .int ((-1))), (4, .int 12), (5, .int 0)] [] μ) ∧ (¬ x1 ≤ x3 → vp_in x3 144 ∧ (∀ v3 : Int32, v3 = x2 ||| (μ.1 82 x3.toNatClampNeg) → ∀ v4 : Int32, v4 = x3 + 1 → Ex E MX4_fewestPlaces Q 9 [(0, .ref 78), (1, .int x1), (2, .int v3), (3, .int v4)] [] μ)))) : Ex E MX4_fewestPlaces Q 9 [(0, .ref 78), (1, .int x1), (2, .int x2), (3, .int x3)] [] μ := by
  refine x_iload_n 3 rfl rfl (dk zX4_fewestPlaces 7 rfl) ?_
  refine x_iload_n 1 rfl rfl (dk zX4_fewestPlaces 8 rfl) ?_
  refine x_icmp_ge (tgt := 29) (by decide) (dk zX4_fewestPlaces 9 rfl) (fun c1 => ?_) (fun c1 => ?_)
  · have hc1t := h.1 c1
    refine x_iconst (v := -1) (by decide) (dk zX4_fewestPlaces 19 rfl) ?_
    refine x_istore_n (k := 3) (l' := [(0, .ref 78), (1, .int x1), (2, .int x2), (3, .int ((-1)))]) [1, 2, 3, 0] rfl rfl (by decide) (dk zX4_fewestPlaces 20 rfl) ?_
    refine x_bipush (v := 12) (by decide) (dk zX4_fewestPlaces 21 rfl) ?_
    refine x_istoreG (l' := [(0, .ref 78), (1, .int x1), (2, .int x2), (3, .int ((-1))), (4, .int 12)]) [1, 2, 3, 4, 0] rfl (by decide) (dk zX4_fewestPlaces 22 rfl) ?_
    refine x_iconst (v := 0) (by decide) (dk zX4_fewestPlaces 23 rfl) ?_
    refine x_istoreG (l' := [(0, .ref 78), (1, .int x1), (2, .int x2), (3, .int ((-1))), (4, .int 12), (5, .int 0)]) [1, 2, 3, 4, 5, 0] rfl (by decide) (dk zX4_fewestPlaces 24 rfl) ?_
    exact hc1t
  · have hc1f := h.2 c1
    refine x_iload_n 2 rfl rfl (dk zX4_fewestPlaces 10 rfl) ?_
    refine x_aload_n 0 rfl rfl (dk zX4_fewestPlaces 11 rfl) ?_
    refine gf4_3 (r := 82) rfl k78 r78_3 (dk zX4_fewestPlaces 12 rfl) ?_
    refine x_iload_n 3 rfl rfl (dk zX4_fewestPlaces 13 rfl) ?_
    have b2 := hc1f.1
    have hb2 := hc1f.2
    refine y_iald (j := x3.toNatClampNeg) k82 l82 b2 rfl (dk zX4_fewestPlaces 14 rfl) ?_
    refine x_ior (dk zX4_fewestPlaces 15 rfl) ?_
    refine x_topi (fun v3 ev3 => ?_)
    have hv3 := hb2 v3 ev3
    refine x_istore_n (k := 2) (l' := [(0, .ref 78), (1, .int x1), (2, .int v3), (3, .int x3)]) [1, 2, 0, 3] rfl rfl (by decide) (dk zX4_fewestPlaces 16 rfl) ?_
    obtain ⟨v4, ev4⟩ : ∃ y : Int32, y = x3 + 1 := ⟨_, rfl⟩
    have hv4 := hv3 v4 ev4
    refine x_iinc (v := v4) (l' := [(0, .ref 78), (1, .int x1), (2, .int v3), (3, .int v4)]) 3 rfl (by rw [ev4]; rfl) [1, 2, 3, 0] rfl (by decide) (dk zX4_fewestPlaces 17 rfl) ?_
    refine x_goto (tgt := 9) (by decide) (dk zX4_fewestPlaces 18 rfl) ?_
    exact hv4
set_option maxRecDepth 20000 in
set_option maxHeartbeats 2000000 in
theorem gX4_fewestPlaces_38 {E : EV} {Q : Po} {μ : Mem} {x1 : Int32} {x2 : Int32} {x3 : Int32} {x4 : Int32} {x5 : Int32} (h : ((x2 < x5 → Q (some (.int x3)) μ) ∧ (¬ x2 < x5 → Sp E MJ6_bitCount_0f7a4 [.int x5] μ (fun v m2 => ∃ r3 : Int32, v = some (.int r3) ∧ ((x4 ≤ r3 → ∀ v5 : Int32, v5 = x5 + 1 → Ex E MX4_fewestPlaces Q 38 [(0, .ref 78), (1, .int x1), (2, .int x2), (3, .int x3), (4, .int x4), (5, .int v5)] [] m2) ∧ (¬ x4 ≤ r3 → Sp E MX4_partsAll [.ref 78, .int x5, .int x1] m2 (fun v m6 => ∃ r7 : Int32, v = some (.int r7) ∧ ((r7 = 0 → ∀ v9 : Int32, v9 = x5 + 1 → Ex E MX4_fewestPlaces Q 38 [(0, .ref 78), (1, .int x1), (2, .int x2), (3, .int x3), (4, .int x4), (5, .int v9)] [] m6) ∧ (¬ r7 = 0 → ∀ v10 : Int32, v10 = x5 + 1 → Ex E MX4_fewestPlaces Q 38 [(0, .ref 78), (1, .int x1), (2, .int x2), (3, .int x5), (4, .int r3), (5, .int v10)] [] m6))))))))) : Ex E MX4_fewestPlaces Q 38 [(0, .ref 78), (1, .int x1), (2, .int x2), (3, .int x3), (4, .int x4), (5, .int x5)] [] μ := by
  refine x_iload 5 rfl (dk zX4_fewestPlaces 25 rfl) ?_
  refine x_iload_n 2 rfl rfl (dk zX4_fewestPlaces 26 rfl) ?_
  refine x_icmp_gt (tgt := 81) (by decide) (dk zX4_fewestPlaces 27 rfl) (fun c1 => ?_) (fun c1 => ?_)
  · have hc1t := h.1 c1
    refine x_iload_n 3 rfl rfl (dk zX4_fewestPlaces 45 rfl) ?_
    exact x_iret (ty := .int) rfl rfl (dk zX4_fewestPlaces 46 rfl) hc1t
  · have hc1f := h.2 c1
    refine x_iload 5 rfl (dk zX4_fewestPlaces 28 rfl) ?_
    refine x_callS (as := [.int x5]) (st := []) rfl okRX4_58 npJ6_bitCount_0f7a4 ⟨Nat.le_of_ble_eq_true rfl, Nat.le_of_ble_eq_true rfl⟩ (Nat.le_of_ble_eq_true rfl) (dk zX4_fewestPlaces 29 rfl) ?_
    refine hc1f.mono ?_
    rintro _ m2 ⟨r3, rfl, hm2⟩
    show Ex E MX4_fewestPlaces Q 49 [(0, .ref 78), (1, .int x1), (2, .int x2), (3, .int x3), (4, .int x4), (5, .int x5)] [.int r3] m2
    refine x_istoreG (l' := [(0, .ref 78), (1, .int x1), (2, .int x2), (3, .int x3), (4, .int x4), (5, .int x5), (6, .int r3)]) [1, 2, 3, 4, 5, 6, 0] rfl (by decide) (dk zX4_fewestPlaces 30 rfl) ?_
    refine x_iload 6 rfl (dk zX4_fewestPlaces 31 rfl) ?_
    refine x_iload 4 rfl (dk zX4_fewestPlaces 32 rfl) ?_
    refine x_icmp_ge (tgt := 75) (by decide) (dk zX4_fewestPlaces 33 rfl) (fun c4 => ?_) (fun c4 => ?_)
    · have hc4t := hm2.1 c4
      obtain ⟨v5, ev5⟩ : ∃ y : Int32, y = x5 + 1 := ⟨_, rfl⟩
      have hv5 := hc4t v5 ev5
      refine x_iinc (v := v5) (l' := [(0, .ref 78), (1, .int x1), (2, .int x2), (3, .int x3), (4, .int x4), (5, .int v5), (6, .int r3)]) 5 rfl (by rw [ev5]; rfl) [1, 2, 3, 4, 5, 0, 6] rfl (by decide) (dk zX4_fewestPlaces 43 rfl) ?_
      refine x_goto (tgt := 38) (by decide) (dk zX4_fewestPlaces 44 rfl) ?_
      exact x_sub [0, 1, 2, 3, 4, 5] rfl hv5
    · have hc4f := hm2.2 c4
      refine x_aload_n 0 rfl rfl (dk zX4_fewestPlaces 34 rfl) ?_
      refine x_iload 5 rfl (dk zX4_fewestPlaces 35 rfl) ?_
      refine x_iload_n 1 rfl rfl (dk zX4_fewestPlaces 36 rfl) ?_
      refine x_callV (as := [.int x5, .int x1]) (o := 78) (ci := 4) (st := []) rfl okRX4_63 npX4_partsAll ⟨Nat.le_of_ble_eq_true rfl, Nat.le_of_ble_eq_true rfl⟩ k78 (by decide) rfl (Nat.le_of_ble_eq_true rfl) (dk zX4_fewestPlaces 37 rfl) ?_
      refine hc4f.mono ?_
      rintro _ m6 ⟨r7, rfl, hm6⟩
      show Ex E MX4_fewestPlaces Q 65 [(0, .ref 78), (1, .int x1), (2, .int x2), (3, .int x3), (4, .int x4), (5, .int x5), (6, .int r3)] [.int r7] m6
      refine x_if_eq (tgt := 75) (by decide) (dk zX4_fewestPlaces 38 rfl) (fun c8 => ?_) (fun c8 => ?_)
      · have hc8t := hm6.1 c8
        obtain ⟨v9, ev9⟩ : ∃ y : Int32, y = x5 + 1 := ⟨_, rfl⟩
        have hv9 := hc8t v9 ev9
        refine x_iinc (v := v9) (l' := [(0, .ref 78), (1, .int x1), (2, .int x2), (3, .int x3), (4, .int x4), (5, .int v9), (6, .int r3)]) 5 rfl (by rw [ev9]; rfl) [1, 2, 3, 4, 5, 0, 6] rfl (by decide) (dk zX4_fewestPlaces 43 rfl) ?_
        refine x_goto (tgt := 38) (by decide) (dk zX4_fewestPlaces 44 rfl) ?_
        exact x_sub [0, 1, 2, 3, 4, 5] rfl hv9
      · have hc8f := hm6.2 c8
        refine x_iload 5 rfl (dk zX4_fewestPlaces 39 rfl) ?_
        refine x_istore_n (k := 3) (l' := [(0, .ref 78), (1, .int x1), (2, .int x2), (3, .int x5), (4, .int x4), (5, .int x5), (6, .int r3)]) [1, 2, 3, 0, 4, 5, 6] rfl rfl (by decide) (dk zX4_fewestPlaces 40 rfl) ?_
        refine x_iload 6 rfl (dk zX4_fewestPlaces 41 rfl) ?_
        refine x_istoreG (l' := [(0, .ref 78), (1, .int x1), (2, .int x2), (3, .int x5), (4, .int r3), (5, .int x5), (6, .int r3)]) [1, 2, 3, 4, 0, 5, 6] rfl (by decide) (dk zX4_fewestPlaces 42 rfl) ?_
        obtain ⟨v10, ev10⟩ : ∃ y : Int32, y = x5 + 1 := ⟨_, rfl⟩
        have hv10 := hc8f v10 ev10
        refine x_iinc (v := v10) (l' := [(0, .ref 78), (1, .int x1), (2, .int x2), (3, .int x5), (4, .int r3), (5, .int v10), (6, .int r3)]) 5 rfl (by rw [ev10]; rfl) [1, 2, 3, 4, 5, 0, 6] rfl (by decide) (dk zX4_fewestPlaces 43 rfl) ?_
        refine x_goto (tgt := 38) (by decide) (dk zX4_fewestPlaces 44 rfl) ?_
        exact x_sub [0, 1, 2, 3, 4, 5] rfl hv10
