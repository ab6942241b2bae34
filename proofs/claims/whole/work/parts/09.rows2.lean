section XY
variable {E : EV} {M M' : MT} {Q : Po} {pc : Nat} {ls : List (Nat × Value)} {st : List Value} {μ : Mem} {a j N : Nat} {i : Int32}
theorem y_iald (ha : kd a = 20) (hN : ln a = N) (hi : vp_in i N) (hj : i.toNatClampNeg = j) (hd : decode M.2.1 pc = .ok (.iaload, 1)) (h : Ex E M Q (pc + 1) ls (.int (μ.1 a j) :: st) μ) : Ex E M Q pc ls (.int i :: .ref a :: st) μ := by
  subst hN hj; exact x_iald ha hi hd h
theorem y_zald (ha : kd a = 22) (hN : ln a = N) (hi : vp_in i N) (hj : i.toNatClampNeg = j) (hd : decode M.2.1 pc = .ok (.baload, 1)) (h : Ex E M Q (pc + 1) ls (.int (μ.1 a j) :: st) μ) : Ex E M Q pc ls (.int i :: .ref a :: st) μ := by
  subst hN hj; exact x_zald ha hi hd h
theorem y_lald (ha : kd a = 21) (hN : ln a = N) (hi : vp_in i N) (hj : i.toNatClampNeg = j) (hd : decode M.2.1 pc = .ok (.laload, 1)) (h : Ex E M Q (pc + 1) ls (.long (μ.2 a j) :: st) μ) : Ex E M Q pc ls (.int i :: .ref a :: st) μ := by
  subst hN hj; exact x_lald ha hi hd h
theorem y_iast {x : Int32} (ha : kd a = 20) (hN : ln a = N) (hi : vp_in i N) (hj : i.toNatClampNeg = j) (hd : decode M.2.1 pc = .ok (.iastore, 1)) (h : Ex E M Q (pc + 1) ls st (mI μ a j x)) : Ex E M Q pc ls (.int x :: .int i :: .ref a :: st) μ := by
  subst hN hj; exact x_iast ha hi hd h
theorem nar_b {x : Int32} (h : x = 0 ∨ x = 1) : narrow .boolean (.int x) = .int x := by rcases h with rfl | rfl <;> rfl
theorem vnar_b {x : Int32} (h : x = 0 ∨ x = 1) : vp_nar .boolean x = x := by rcases h with rfl | rfl <;> rfl
theorem y_zast {x : Int32} (ha : kd a = 22) (hN : ln a = N) (hi : vp_in i N) (hj : i.toNatClampNeg = j) (hx : x = 0 ∨ x = 1) (hd : decode M.2.1 pc = .ok (.bastore, 1)) (h : Ex E M Q (pc + 1) ls st (mI μ a j x)) : Ex E M Q pc ls (.int x :: .int i :: .ref a :: st) μ := by
  subst hN hj; exact x_zast ha hi (vnar_b hx) hd h
theorem y_last {x : Int64} (ha : kd a = 21) (hN : ln a = N) (hi : vp_in i N) (hj : i.toNatClampNeg = j) (hd : decode M.2.1 pc = .ok (.lastore, 1)) (h : Ex E M Q (pc + 1) ls st (mJ μ a j x)) : Ex E M Q pc ls (.long x :: .int i :: .ref a :: st) μ := by
  subst hN hj; exact x_last ha hi hd h
theorem x_istoreG {i : Nat} {x : Int32} {l' : List (Nat × Value)} (ks : List Nat) (hk : lv_pick (st1 i (.int x) ls) ks = l') (hn : i < M.2.2.1) (hd : decode M.2.1 pc = .ok (.istore i, 2)) (h : Ex E M Q (pc + 2) l' st μ) : Ex E M Q pc ls (.int x :: st) μ := by
  intro p e s m args below meth c hc H locs lr hl hP hS
  exact lv_istore hc.1 hc.2.1 hd hl hn (st1_sh _ i (.int x) ls) (fun lr hl => h p e s m args below meth c hc H locs lr (xl_sub hl ks hk) hP hS)
theorem x_lstoreG {i : Nat} {x : Int64} {l' : List (Nat × Value)} (ks : List Nat) (hk : lv_pick (st2 i (.long x) ls) ks = l') (hn : i + 1 < M.2.2.1) (hd : decode M.2.1 pc = .ok (.lstore i, 2)) (h : Ex E M Q (pc + 2) l' st μ) : Ex E M Q pc ls (.long x :: st) μ := by
  intro p e s m args below meth c hc H locs lr hl hP hS
  exact lv_lstore hc.1 hc.2.1 hd hl hn (st2_sh _ i (.long x) ls) (fun lr hl => h p e s m args below meth c hc H locs lr (xl_sub hl ks hk) hP hS)
theorem rf_arr {k : Nat} (h : kd a = k) (h1 : 24 ≤ k) (j : Nat) : rf a j = a + 1 + j := by
  unfold rf
  rw [if_neg (by omega), if_neg (by omega)]
theorem rf_txt (h : kd a = 23) (j : Nat) : rf a j = 115 + 2 * j := by
  unfold rf
  rw [if_pos h]
theorem y_aaldI {b : Nat} (ha : kd a = 24) (hN : ln a = N) (hi : vp_in i N) (hb : a + 1 + i.toNatClampNeg = b) (hd : decode M.2.1 pc = .ok (.aaload, 1)) (h : Ex E M Q (pc + 1) ls (.ref b :: st) μ) : Ex E M Q pc ls (.int i :: .ref a :: st) μ := by
  subst hN hb; exact x_aald (t := 1) (ty := .array .int) ha rfl rfl hi (rf_arr ha (by omega) _) hd h
theorem y_aaldJ {b : Nat} (ha : kd a = 25) (hN : ln a = N) (hi : vp_in i N) (hb : a + 1 + i.toNatClampNeg = b) (hd : decode M.2.1 pc = .ok (.aaload, 1)) (h : Ex E M Q (pc + 1) ls (.ref b :: st) μ) : Ex E M Q pc ls (.int i :: .ref a :: st) μ := by
  subst hN hb; exact x_aald (t := 2) (ty := .array .long) ha rfl rfl hi (rf_arr ha (by omega) _) hd h
theorem y_aaldT {b : Nat} (ha : kd a = 23) (hN : ln a = N) (hi : vp_in i N) (hb : 115 + 2 * i.toNatClampNeg = b) (hd : decode M.2.1 pc = .ok (.aaload, 1)) (h : Ex E M Q (pc + 1) ls (.ref b :: st) μ) : Ex E M Q pc ls (.int i :: .ref a :: st) μ := by
  subst hN hb; exact x_aald (t := 0) (ty := .object "StampsCancel$Text") ha rfl rfl hi (rf_txt ha _) hd h
end XY
theorem k0 : kd 0 = 10 := by decide +kernel
theorem l0 : ln 0 = 12 := by decide +kernel
theorem k1 : kd 1 = 3 := by decide +kernel
theorem l1 : ln 1 = 6 := by decide +kernel
theorem k2 : kd 2 = 20 := by decide +kernel
theorem l2 : ln 2 = 18 := by decide +kernel
theorem k3 : kd 3 = 23 := by decide +kernel
theorem l3 : ln 3 = 4 := by decide +kernel
theorem k4 : kd 4 = 5 := by decide +kernel
theorem l4 : ln 4 = 2 := by decide +kernel
theorem k5 : kd 5 = 20 := by decide +kernel
theorem l5 : ln 5 = 60 := by decide +kernel
theorem k6 : kd 6 = 5 := by decide +kernel
theorem l6 : ln 6 = 2 := by decide +kernel
theorem k7 : kd 7 = 20 := by decide +kernel
theorem l7 : ln 7 = 60 := by decide +kernel
theorem k8 : kd 8 = 2 := by decide +kernel
theorem l8 : ln 8 = 6 := by decide +kernel
theorem k9 : kd 9 = 5 := by decide +kernel
theorem l9 : ln 9 = 2 := by decide +kernel
theorem k10 : kd 10 = 20 := by decide +kernel
theorem l10 : ln 10 = 60 := by decide +kernel
theorem k11 : kd 11 = 6 := by decide +kernel
theorem l11 : ln 11 = 6 := by decide +kernel
theorem k12 : kd 12 = 0 := by decide +kernel
theorem l12 : ln 12 = 3 := by decide +kernel
theorem k13 : kd 13 = 24 := by decide +kernel
theorem l13 : ln 13 = 8 := by decide +kernel
theorem k14 : kd 14 = 20 := by decide +kernel
theorem l14 : ln 14 = 8 := by decide +kernel
theorem k15 : kd 15 = 20 := by decide +kernel
theorem l15 : ln 15 = 8 := by decide +kernel
theorem k16 : kd 16 = 20 := by decide +kernel
theorem l16 : ln 16 = 8 := by decide +kernel
theorem k17 : kd 17 = 20 := by decide +kernel
theorem l17 : ln 17 = 8 := by decide +kernel
theorem k18 : kd 18 = 20 := by decide +kernel
theorem l18 : ln 18 = 8 := by decide +kernel
theorem k19 : kd 19 = 20 := by decide +kernel
theorem l19 : ln 19 = 8 := by decide +kernel
theorem k20 : kd 20 = 20 := by decide +kernel
theorem l20 : ln 20 = 8 := by decide +kernel
theorem k21 : kd 21 = 20 := by decide +kernel
theorem l21 : ln 21 = 8 := by decide +kernel
theorem k22 : kd 22 = 20 := by decide +kernel
theorem l22 : ln 22 = 8 := by decide +kernel
theorem k23 : kd 23 = 20 := by decide +kernel
theorem l23 : ln 23 = 8 := by decide +kernel
theorem k24 : kd 24 = 20 := by decide +kernel
theorem l24 : ln 24 = 120 := by decide +kernel
theorem k25 : kd 25 = 21 := by decide +kernel
theorem l25 : ln 25 = 8 := by decide +kernel
theorem k26 : kd 26 = 21 := by decide +kernel
theorem l26 : ln 26 = 8 := by decide +kernel
theorem k27 : kd 27 = 1 := by decide +kernel
theorem l27 : ln 27 = 4 := by decide +kernel
theorem k28 : kd 28 = 0 := by decide +kernel
theorem l28 : ln 28 = 3 := by decide +kernel
theorem k29 : kd 29 = 24 := by decide +kernel
theorem l29 : ln 29 = 8 := by decide +kernel
theorem k30 : kd 30 = 20 := by decide +kernel
theorem l30 : ln 30 = 8 := by decide +kernel
theorem k31 : kd 31 = 20 := by decide +kernel
theorem l31 : ln 31 = 8 := by decide +kernel
theorem k32 : kd 32 = 20 := by decide +kernel
theorem l32 : ln 32 = 8 := by decide +kernel
theorem k33 : kd 33 = 20 := by decide +kernel
theorem l33 : ln 33 = 8 := by decide +kernel
theorem k34 : kd 34 = 20 := by decide +kernel
theorem l34 : ln 34 = 8 := by decide +kernel
theorem k35 : kd 35 = 20 := by decide +kernel
theorem l35 : ln 35 = 8 := by decide +kernel
theorem k36 : kd 36 = 20 := by decide +kernel
theorem l36 : ln 36 = 8 := by decide +kernel
theorem k37 : kd 37 = 20 := by decide +kernel
theorem l37 : ln 37 = 8 := by decide +kernel
theorem k38 : kd 38 = 20 := by decide +kernel
theorem l38 : ln 38 = 8 := by decide +kernel
theorem k39 : kd 39 = 20 := by decide +kernel
theorem l39 : ln 39 = 8 := by decide +kernel
theorem k40 : kd 40 = 20 := by decide +kernel
theorem l40 : ln 40 = 8 := by decide +kernel
theorem k41 : kd 41 = 20 := by decide +kernel
theorem l41 : ln 41 = 8 := by decide +kernel
theorem k42 : kd 42 = 9 := by decide +kernel
theorem l42 : ln 42 = 7 := by decide +kernel
theorem k43 : kd 43 = 0 := by decide +kernel
theorem l43 : ln 43 = 3 := by decide +kernel
theorem k44 : kd 44 = 24 := by decide +kernel
theorem l44 : ln 44 = 8 := by decide +kernel
theorem k45 : kd 45 = 20 := by decide +kernel
theorem l45 : ln 45 = 8 := by decide +kernel
theorem k46 : kd 46 = 20 := by decide +kernel
theorem l46 : ln 46 = 8 := by decide +kernel
theorem k47 : kd 47 = 20 := by decide +kernel
theorem l47 : ln 47 = 8 := by decide +kernel
theorem k48 : kd 48 = 20 := by decide +kernel
theorem l48 : ln 48 = 8 := by decide +kernel
theorem k49 : kd 49 = 20 := by decide +kernel
theorem l49 : ln 49 = 8 := by decide +kernel
theorem k50 : kd 50 = 20 := by decide +kernel
theorem l50 : ln 50 = 8 := by decide +kernel
theorem k51 : kd 51 = 20 := by decide +kernel
theorem l51 : ln 51 = 8 := by decide +kernel
theorem k52 : kd 52 = 20 := by decide +kernel
theorem l52 : ln 52 = 8 := by decide +kernel
theorem k53 : kd 53 = 20 := by decide +kernel
theorem l53 : ln 53 = 8 := by decide +kernel
theorem k54 : kd 54 = 20 := by decide +kernel
theorem l54 : ln 54 = 8 := by decide +kernel
theorem k55 : kd 55 = 20 := by decide +kernel
theorem l55 : ln 55 = 8 := by decide +kernel
theorem k56 : kd 56 = 25 := by decide +kernel
theorem l56 : ln 56 = 18 := by decide +kernel
theorem k57 : kd 57 = 21 := by decide +kernel
theorem l57 : ln 57 = 104 := by decide +kernel
theorem k58 : kd 58 = 21 := by decide +kernel
theorem l58 : ln 58 = 104 := by decide +kernel
theorem k59 : kd 59 = 21 := by decide +kernel
theorem l59 : ln 59 = 104 := by decide +kernel
theorem k60 : kd 60 = 21 := by decide +kernel
theorem l60 : ln 60 = 104 := by decide +kernel
theorem k61 : kd 61 = 21 := by decide +kernel
theorem l61 : ln 61 = 104 := by decide +kernel
theorem k62 : kd 62 = 21 := by decide +kernel
theorem l62 : ln 62 = 104 := by decide +kernel
theorem k63 : kd 63 = 21 := by decide +kernel
theorem l63 : ln 63 = 104 := by decide +kernel
theorem k64 : kd 64 = 21 := by decide +kernel
theorem l64 : ln 64 = 104 := by decide +kernel
theorem k65 : kd 65 = 21 := by decide +kernel
theorem l65 : ln 65 = 104 := by decide +kernel
theorem k66 : kd 66 = 21 := by decide +kernel
theorem l66 : ln 66 = 104 := by decide +kernel
theorem k67 : kd 67 = 21 := by decide +kernel
theorem l67 : ln 67 = 104 := by decide +kernel
theorem k68 : kd 68 = 21 := by decide +kernel
theorem l68 : ln 68 = 104 := by decide +kernel
theorem k69 : kd 69 = 21 := by decide +kernel
theorem l69 : ln 69 = 104 := by decide +kernel
theorem k70 : kd 70 = 21 := by decide +kernel
theorem l70 : ln 70 = 104 := by decide +kernel
theorem k71 : kd 71 = 21 := by decide +kernel
theorem l71 : ln 71 = 104 := by decide +kernel
theorem k72 : kd 72 = 21 := by decide +kernel
theorem l72 : ln 72 = 104 := by decide +kernel
theorem k73 : kd 73 = 21 := by decide +kernel
theorem l73 : ln 73 = 104 := by decide +kernel
theorem k74 : kd 74 = 21 := by decide +kernel
theorem l74 : ln 74 = 104 := by decide +kernel
theorem k75 : kd 75 = 21 := by decide +kernel
theorem l75 : ln 75 = 104 := by decide +kernel
theorem k76 : kd 76 = 21 := by decide +kernel
theorem l76 : ln 76 = 104 := by decide +kernel
theorem k77 : kd 77 = 21 := by decide +kernel
theorem l77 : ln 77 = 13 := by decide +kernel
theorem k78 : kd 78 = 4 := by decide +kernel
theorem l78 : ln 78 = 5 := by decide +kernel
theorem k79 : kd 79 = 20 := by decide +kernel
theorem l79 : ln 79 = 132 := by decide +kernel
theorem k80 : kd 80 = 20 := by decide +kernel
theorem l80 : ln 80 = 12 := by decide +kernel
theorem k81 : kd 81 = 20 := by decide +kernel
theorem l81 : ln 81 = 12 := by decide +kernel
theorem k82 : kd 82 = 20 := by decide +kernel
theorem l82 : ln 82 = 144 := by decide +kernel
theorem k83 : kd 83 = 0 := by decide +kernel
theorem l83 : ln 83 = 3 := by decide +kernel
theorem k84 : kd 84 = 24 := by decide +kernel
theorem l84 : ln 84 = 8 := by decide +kernel
theorem k85 : kd 85 = 20 := by decide +kernel
theorem l85 : ln 85 = 8 := by decide +kernel
theorem k86 : kd 86 = 20 := by decide +kernel
theorem l86 : ln 86 = 8 := by decide +kernel
theorem k87 : kd 87 = 20 := by decide +kernel
theorem l87 : ln 87 = 8 := by decide +kernel
theorem k88 : kd 88 = 20 := by decide +kernel
theorem l88 : ln 88 = 8 := by decide +kernel
theorem k89 : kd 89 = 20 := by decide +kernel
theorem l89 : ln 89 = 8 := by decide +kernel
theorem k90 : kd 90 = 20 := by decide +kernel
theorem l90 : ln 90 = 8 := by decide +kernel
theorem k91 : kd 91 = 20 := by decide +kernel
theorem l91 : ln 91 = 8 := by decide +kernel
theorem k92 : kd 92 = 20 := by decide +kernel
theorem l92 : ln 92 = 8 := by decide +kernel
theorem k93 : kd 93 = 20 := by decide +kernel
theorem l93 : ln 93 = 8 := by decide +kernel
theorem k94 : kd 94 = 20 := by decide +kernel
theorem l94 : ln 94 = 8 := by decide +kernel
theorem k95 : kd 95 = 0 := by decide +kernel
theorem l95 : ln 95 = 3 := by decide +kernel
theorem k96 : kd 96 = 24 := by decide +kernel
theorem l96 : ln 96 = 8 := by decide +kernel
theorem k97 : kd 97 = 20 := by decide +kernel
theorem l97 : ln 97 = 8 := by decide +kernel
theorem k98 : kd 98 = 20 := by decide +kernel
theorem l98 : ln 98 = 8 := by decide +kernel
theorem k99 : kd 99 = 20 := by decide +kernel
theorem l99 : ln 99 = 8 := by decide +kernel
theorem k100 : kd 100 = 20 := by decide +kernel
theorem l100 : ln 100 = 8 := by decide +kernel
theorem k101 : kd 101 = 20 := by decide +kernel
theorem l101 : ln 101 = 8 := by decide +kernel
theorem k102 : kd 102 = 20 := by decide +kernel
theorem l102 : ln 102 = 8 := by decide +kernel
theorem k103 : kd 103 = 20 := by decide +kernel
theorem l103 : ln 103 = 8 := by decide +kernel
theorem k104 : kd 104 = 20 := by decide +kernel
theorem l104 : ln 104 = 8 := by decide +kernel
theorem k105 : kd 105 = 20 := by decide +kernel
theorem l105 : ln 105 = 8 := by decide +kernel
theorem k106 : kd 106 = 20 := by decide +kernel
theorem l106 : ln 106 = 8 := by decide +kernel
theorem k107 : kd 107 = 7 := by decide +kernel
theorem l107 : ln 107 = 4 := by decide +kernel
theorem k108 : kd 108 = 24 := by decide +kernel
theorem l108 : ln 108 = 4 := by decide +kernel
theorem k109 : kd 109 = 20 := by decide +kernel
theorem l109 : ln 109 = 60 := by decide +kernel
theorem k110 : kd 110 = 20 := by decide +kernel
theorem l110 : ln 110 = 60 := by decide +kernel
theorem k111 : kd 111 = 20 := by decide +kernel
theorem l111 : ln 111 = 60 := by decide +kernel
theorem k112 : kd 112 = 20 := by decide +kernel
theorem l112 : ln 112 = 60 := by decide +kernel
theorem k113 : kd 113 = 20 := by decide +kernel
theorem l113 : ln 113 = 4 := by decide +kernel
theorem k114 : kd 114 = 20 := by decide +kernel
theorem l114 : ln 114 = 4 := by decide +kernel
theorem k115 : kd 115 = 8 := by decide +kernel
theorem l115 : ln 115 = 3 := by decide +kernel
theorem k116 : kd 116 = 20 := by decide +kernel
theorem l116 : ln 116 = 50 := by decide +kernel
theorem k117 : kd 117 = 8 := by decide +kernel
theorem l117 : ln 117 = 3 := by decide +kernel
theorem k118 : kd 118 = 20 := by decide +kernel
theorem l118 : ln 118 = 50 := by decide +kernel
theorem k119 : kd 119 = 8 := by decide +kernel
theorem l119 : ln 119 = 3 := by decide +kernel
theorem k120 : kd 120 = 20 := by decide +kernel
theorem l120 : ln 120 = 50 := by decide +kernel
theorem k121 : kd 121 = 8 := by decide +kernel
theorem l121 : ln 121 = 3 := by decide +kernel
theorem k122 : kd 122 = 20 := by decide +kernel
theorem l122 : ln 122 = 50 := by decide +kernel
theorem k123 : kd 123 = 11 := by decide +kernel
theorem l123 : ln 123 = 35 := by decide +kernel
theorem k124 : kd 124 = 20 := by decide +kernel
theorem l124 : ln 124 = 4 := by decide +kernel
theorem k125 : kd 125 = 20 := by decide +kernel
theorem l125 : ln 125 = 4 := by decide +kernel
theorem k126 : kd 126 = 20 := by decide +kernel
theorem l126 : ln 126 = 240 := by decide +kernel
theorem k127 : kd 127 = 20 := by decide +kernel
theorem l127 : ln 127 = 60 := by decide +kernel
theorem k128 : kd 128 = 20 := by decide +kernel
theorem l128 : ln 128 = 140 := by decide +kernel
theorem k129 : kd 129 = 20 := by decide +kernel
theorem l129 : ln 129 = 4 := by decide +kernel
theorem k130 : kd 130 = 20 := by decide +kernel
theorem l130 : ln 130 = 9 := by decide +kernel
theorem k131 : kd 131 = 20 := by decide +kernel
theorem l131 : ln 131 = 9 := by decide +kernel
theorem k132 : kd 132 = 22 := by decide +kernel
theorem l132 : ln 132 = 9 := by decide +kernel
theorem k133 : kd 133 = 20 := by decide +kernel
theorem l133 : ln 133 = 120 := by decide +kernel
theorem k134 : kd 134 = 20 := by decide +kernel
theorem l134 : ln 134 = 2 := by decide +kernel
theorem k135 : kd 135 = 20 := by decide +kernel
theorem l135 : ln 135 = 64 := by decide +kernel
theorem k136 : kd 136 = 21 := by decide +kernel
theorem l136 : ln 136 = 64 := by decide +kernel
theorem k137 : kd 137 = 20 := by decide +kernel
theorem l137 : ln 137 = 120 := by decide +kernel
theorem k138 : kd 138 = 20 := by decide +kernel
theorem l138 : ln 138 = 96 := by decide +kernel
theorem k139 : kd 139 = 21 := by decide +kernel
theorem l139 : ln 139 = 15808 := by decide +kernel
theorem k140 : kd 140 = 21 := by decide +kernel
theorem l140 : ln 140 = 13 := by decide +kernel
theorem k141 : kd 141 = 21 := by decide +kernel
theorem l141 : ln 141 = 13 := by decide +kernel
theorem k142 : kd 142 = 20 := by decide +kernel
theorem l142 : ln 142 = 720 := by decide +kernel
theorem k143 : kd 143 = 20 := by decide +kernel
theorem l143 : ln 143 = 12 := by decide +kernel
theorem k144 : kd 144 = 22 := by decide +kernel
theorem l144 : ln 144 = 12 := by decide +kernel
theorem k145 : kd 145 = 20 := by decide +kernel
theorem l145 : ln 145 = 11 := by decide +kernel
theorem k146 : kd 146 = 20 := by decide +kernel
theorem l146 : ln 146 = 64 := by decide +kernel
theorem k147 : kd 147 = 20 := by decide +kernel
theorem l147 : ln 147 = 64 := by decide +kernel
theorem r0_0 : rf 0 0 = 1 := by decide +kernel
theorem r0_1 : rf 0 1 = 3 := by decide +kernel
theorem r0_2 : rf 0 2 = 4 := by decide +kernel
theorem r0_3 : rf 0 3 = 6 := by decide +kernel
theorem r0_4 : rf 0 4 = 8 := by decide +kernel
theorem r0_5 : rf 0 5 = 11 := by decide +kernel
theorem r0_6 : rf 0 6 = 27 := by decide +kernel
theorem r0_7 : rf 0 7 = 42 := by decide +kernel
theorem r0_8 : rf 0 8 = 78 := by decide +kernel
theorem r0_9 : rf 0 9 = 83 := by decide +kernel
theorem r0_10 : rf 0 10 = 95 := by decide +kernel
theorem r0_11 : rf 0 11 = 107 := by decide +kernel
theorem r1_0 : rf 1 0 = 2 := by decide +kernel
theorem r4_0 : rf 4 0 = 5 := by decide +kernel
theorem r6_0 : rf 6 0 = 7 := by decide +kernel
theorem r8_0 : rf 8 0 = 1 := by decide +kernel
theorem r8_1 : rf 8 1 = 9 := by decide +kernel
theorem r9_0 : rf 9 0 = 10 := by decide +kernel
theorem r11_0 : rf 11 0 = 1 := by decide +kernel
theorem r11_1 : rf 11 1 = 12 := by decide +kernel
theorem r11_2 : rf 11 2 = 24 := by decide +kernel
theorem r11_4 : rf 11 4 = 25 := by decide +kernel
theorem r11_5 : rf 11 5 = 26 := by decide +kernel
theorem r12_0 : rf 12 0 = 13 := by decide +kernel
theorem r12_1 : rf 12 1 = 22 := by decide +kernel
theorem r12_2 : rf 12 2 = 23 := by decide +kernel
theorem r27_0 : rf 27 0 = 1 := by decide +kernel
theorem r27_1 : rf 27 1 = 28 := by decide +kernel
theorem r27_2 : rf 27 2 = 40 := by decide +kernel
theorem r27_3 : rf 27 3 = 41 := by decide +kernel
theorem r28_0 : rf 28 0 = 29 := by decide +kernel
theorem r28_1 : rf 28 1 = 38 := by decide +kernel
theorem r28_2 : rf 28 2 = 39 := by decide +kernel
theorem r42_0 : rf 42 0 = 1 := by decide +kernel
theorem r42_1 : rf 42 1 = 43 := by decide +kernel
theorem r42_2 : rf 42 2 = 55 := by decide +kernel
theorem r42_3 : rf 42 3 = 56 := by decide +kernel
theorem r42_4 : rf 42 4 = 75 := by decide +kernel
theorem r42_5 : rf 42 5 = 76 := by decide +kernel
theorem r42_6 : rf 42 6 = 77 := by decide +kernel
theorem r43_0 : rf 43 0 = 44 := by decide +kernel
theorem r43_1 : rf 43 1 = 53 := by decide +kernel
theorem r43_2 : rf 43 2 = 54 := by decide +kernel
theorem r78_0 : rf 78 0 = 79 := by decide +kernel
theorem r78_1 : rf 78 1 = 80 := by decide +kernel
theorem r78_2 : rf 78 2 = 81 := by decide +kernel
theorem r78_3 : rf 78 3 = 82 := by decide +kernel
theorem r83_0 : rf 83 0 = 84 := by decide +kernel
theorem r83_1 : rf 83 1 = 93 := by decide +kernel
theorem r83_2 : rf 83 2 = 94 := by decide +kernel
theorem r95_0 : rf 95 0 = 96 := by decide +kernel
theorem r95_1 : rf 95 1 = 105 := by decide +kernel
theorem r95_2 : rf 95 2 = 106 := by decide +kernel
theorem r107_0 : rf 107 0 = 108 := by decide +kernel
theorem r107_1 : rf 107 1 = 113 := by decide +kernel
theorem r107_2 : rf 107 2 = 114 := by decide +kernel
theorem r115_0 : rf 115 0 = 116 := by decide +kernel
theorem r117_0 : rf 117 0 = 118 := by decide +kernel
theorem r119_0 : rf 119 0 = 120 := by decide +kernel
theorem r121_0 : rf 121 0 = 122 := by decide +kernel
theorem r123_0 : rf 123 0 = 124 := by decide +kernel
theorem r123_1 : rf 123 1 = 125 := by decide +kernel
theorem r123_2 : rf 123 2 = 126 := by decide +kernel
theorem r123_3 : rf 123 3 = 127 := by decide +kernel
theorem r123_5 : rf 123 5 = 128 := by decide +kernel
theorem r123_6 : rf 123 6 = 129 := by decide +kernel
theorem r123_9 : rf 123 9 = 130 := by decide +kernel
theorem r123_10 : rf 123 10 = 131 := by decide +kernel
theorem r123_11 : rf 123 11 = 132 := by decide +kernel
theorem r123_14 : rf 123 14 = 133 := by decide +kernel
theorem r123_15 : rf 123 15 = 134 := by decide +kernel
theorem r123_17 : rf 123 17 = 135 := by decide +kernel
theorem r123_18 : rf 123 18 = 136 := by decide +kernel
theorem r123_19 : rf 123 19 = 137 := by decide +kernel
theorem r123_24 : rf 123 24 = 138 := by decide +kernel
theorem r123_25 : rf 123 25 = 139 := by decide +kernel
theorem r123_26 : rf 123 26 = 140 := by decide +kernel
theorem r123_27 : rf 123 27 = 141 := by decide +kernel
theorem r123_29 : rf 123 29 = 142 := by decide +kernel
theorem r123_30 : rf 123 30 = 143 := by decide +kernel
theorem r123_31 : rf 123 31 = 144 := by decide +kernel
theorem r123_32 : rf 123 32 = 145 := by decide +kernel
theorem r123_33 : rf 123 33 = 146 := by decide +kernel
theorem r123_34 : rf 123 34 = 147 := by decide +kernel
theorem sP0 : ∀ o, kd o = 5 → rf o 0 = o + 1 := by
  have h : ∀ o, o < NC → kd o = 5 → rf o 0 = o + 1 := by decide +kernel
  exact fun o ho => h o (kd_lt20 (by omega)) ho
theorem sP0k : ∀ o, kd o = 5 → kd (o + 1) = 20 := by
  have h : ∀ o, o < NC → kd o = 5 → kd (o + 1) = 20 := by decide +kernel
  exact fun o ho => h o (kd_lt20 (by omega)) ho
theorem sP0l : ∀ o, kd o = 5 → ln (o + 1) = 60 := by
  have h : ∀ o, o < NC → kd o = 5 → ln (o + 1) = 60 := by decide +kernel
  exact fun o ho => h o (kd_lt20 (by omega)) ho
theorem sT0 : ∀ o, kd o = 8 → rf o 0 = o + 1 := by
  have h : ∀ o, o < NC → kd o = 8 → rf o 0 = o + 1 := by decide +kernel
  exact fun o ho => h o (kd_lt20 (by omega)) ho
theorem sT0k : ∀ o, kd o = 8 → kd (o + 1) = 20 := by
  have h : ∀ o, o < NC → kd o = 8 → kd (o + 1) = 20 := by decide +kernel
  exact fun o ho => h o (kd_lt20 (by omega)) ho
theorem sT0l : ∀ o, kd o = 8 → ln (o + 1) = 50 := by
  have h : ∀ o, o < NC → kd o = 8 → ln (o + 1) = 50 := by decide +kernel
  exact fun o ho => h o (kd_lt20 (by omega)) ho
theorem sD0 : ∀ o, kd o = 0 → rf o 0 = o + 1 := by
  have h : ∀ o, o < NC → kd o = 0 → rf o 0 = o + 1 := by decide +kernel
  exact fun o ho => h o (kd_lt20 (by omega)) ho
theorem sD0k : ∀ o, kd o = 0 → kd (o + 1) = 24 := by
  have h : ∀ o, o < NC → kd o = 0 → kd (o + 1) = 24 := by decide +kernel
  exact fun o ho => h o (kd_lt20 (by omega)) ho
theorem sD0l : ∀ o, kd o = 0 → ln (o + 1) = 8 := by
  have h : ∀ o, o < NC → kd o = 0 → ln (o + 1) = 8 := by decide +kernel
  exact fun o ho => h o (kd_lt20 (by omega)) ho
theorem sD1 : ∀ o, kd o = 0 → rf o 1 = o + 10 := by
  have h : ∀ o, o < NC → kd o = 0 → rf o 1 = o + 10 := by decide +kernel
  exact fun o ho => h o (kd_lt20 (by omega)) ho
theorem sD1k : ∀ o, kd o = 0 → kd (o + 10) = 20 := by
  have h : ∀ o, o < NC → kd o = 0 → kd (o + 10) = 20 := by decide +kernel
  exact fun o ho => h o (kd_lt20 (by omega)) ho
theorem sD1l : ∀ o, kd o = 0 → ln (o + 10) = 8 := by
  have h : ∀ o, o < NC → kd o = 0 → ln (o + 10) = 8 := by decide +kernel
  exact fun o ho => h o (kd_lt20 (by omega)) ho
theorem sD2 : ∀ o, kd o = 0 → rf o 2 = o + 11 := by
  have h : ∀ o, o < NC → kd o = 0 → rf o 2 = o + 11 := by decide +kernel
  exact fun o ho => h o (kd_lt20 (by omega)) ho
theorem sD2k : ∀ o, kd o = 0 → kd (o + 11) = 20 := by
  have h : ∀ o, o < NC → kd o = 0 → kd (o + 11) = 20 := by decide +kernel
  exact fun o ho => h o (kd_lt20 (by omega)) ho
theorem sD2l : ∀ o, kd o = 0 → ln (o + 11) = 8 := by
  have h : ∀ o, o < NC → kd o = 0 → ln (o + 11) = 8 := by decide +kernel
  exact fun o ho => h o (kd_lt20 (by omega)) ho
theorem sDr0 : ∀ o, kd o = 0 → ∀ j, j < 8 → kd (o + 2 + j) = 20 ∧ ln (o + 2 + j) = 8 := by
  have h : ∀ o, o < NC → kd o = 0 → ∀ j, j < 8 → kd (o + 2 + j) = 20 ∧ ln (o + 2 + j) = 8 := by decide +kernel
  exact fun o ho => h o (kd_lt20 (by omega)) ho
theorem vp_lt {i : Int32} {n : Nat} (h : vp_in i n) : i.toNatClampNeg < n := Nat.not_le.mp fun q => h (Or.inr q)
theorem sDrk {o : Nat} (h : kd o = 0) {i : Int32} (hi : vp_in i 8) : kd (o + 2 + i.toNatClampNeg) = 20 := (sDr0 o h _ (vp_lt hi)).1
theorem sDrl {o : Nat} (h : kd o = 0) {i : Int32} (hi : vp_in i 8) : ln (o + 2 + i.toNatClampNeg) = 8 := (sDr0 o h _ (vp_lt hi)).2
theorem sTx0 : ∀ j, j < 4 → kd (115 + 2 * j) = 8 := by decide +kernel
theorem sTxk {i : Int32} (hi : vp_in i 4) : kd (115 + 2 * i.toNatClampNeg) = 8 := sTx0 _ (vp_lt hi)
theorem sSh0 : ∀ j, j < 4 → kd (109 + j) = 20 ∧ ln (109 + j) = 60 := by decide +kernel
theorem sShk {i : Int32} (hi : vp_in i 4) : kd (109 + i.toNatClampNeg) = 20 := (sSh0 _ (vp_lt hi)).1
theorem sShl {i : Int32} (hi : vp_in i 4) : ln (109 + i.toNatClampNeg) = 60 := (sSh0 _ (vp_lt hi)).2
theorem sBh0 : ∀ j, j < 18 → kd (57 + j) = 21 ∧ ln (57 + j) = 104 := by decide +kernel
theorem sBhk {i : Int32} (hi : vp_in i 18) : kd (57 + i.toNatClampNeg) = 21 := (sBh0 _ (vp_lt hi)).1
theorem sBhl {i : Int32} (hi : vp_in i 18) : ln (57 + i.toNatClampNeg) = 104 := (sBh0 _ (vp_lt hi)).2
theorem npJ7_fill_53178 : (parseMethodDescriptor MJ7_fill_53178.1.desc).map (fun d => d.parameters.length) = some 2 := by decide +kernel
theorem npX3_gatesTold : (parseMethodDescriptor MX3_gatesTold.1.desc).map (fun d => d.parameters.length) = some 0 := by decide +kernel
theorem npX3_from : (parseMethodDescriptor MX3_from.1.desc).map (fun d => d.parameters.length) = some 1 := by decide +kernel
theorem npX3_to : (parseMethodDescriptor MX3_to.1.desc).map (fun d => d.parameters.length) = some 1 := by decide +kernel
theorem npX0_link : (parseMethodDescriptor MX0_link.1.desc).map (fun d => d.parameters.length) = some 2 := by decide +kernel
theorem npX0_layOut : (parseMethodDescriptor MX0_layOut.1.desc).map (fun d => d.parameters.length) = some 2 := by decide +kernel
theorem npX0_spread : (parseMethodDescriptor MX0_spread.1.desc).map (fun d => d.parameters.length) = some 1 := by decide +kernel
theorem npX0_measure : (parseMethodDescriptor MX0_measure.1.desc).map (fun d => d.parameters.length) = some 2 := by decide +kernel
theorem npX0_measureLinked : (parseMethodDescriptor MX0_measureLinked.1.desc).map (fun d => d.parameters.length) = some 4 := by decide +kernel
theorem npX10_isTown : (parseMethodDescriptor MX10_isTown.1.desc).map (fun d => d.parameters.length) = some 1 := by decide +kernel
theorem npX0_measureFrom : (parseMethodDescriptor MX0_measureFrom.1.desc).map (fun d => d.parameters.length) = some 3 := by decide +kernel
theorem npX0_between : (parseMethodDescriptor MX0_between.1.desc).map (fun d => d.parameters.length) = some 2 := by decide +kernel
theorem npX0_reachedFrom : (parseMethodDescriptor MX0_reachedFrom.1.desc).map (fun d => d.parameters.length) = some 1 := by decide +kernel
theorem npX0_pairsUnlike : (parseMethodDescriptor MX0_pairsUnlike.1.desc).map (fun d => d.parameters.length) = some 1 := by decide +kernel
theorem npJ9_abs_0f7a4 : (parseMethodDescriptor MJ9_abs_0f7a4.1.desc).map (fun d => d.parameters.length) = some 1 := by decide +kernel
theorem npJ9_max_7cf53 : (parseMethodDescriptor MJ9_max_7cf53.1.desc).map (fun d => d.parameters.length) = some 2 := by decide +kernel
theorem npX0_mostUnlike : (parseMethodDescriptor MX0_mostUnlike.1.desc).map (fun d => d.parameters.length) = some 1 := by decide +kernel
theorem npX3_openLanes : (parseMethodDescriptor MX3_openLanes.1.desc).map (fun d => d.parameters.length) = some 0 := by decide +kernel
theorem npX1_setOut : (parseMethodDescriptor MX1_setOut.1.desc).map (fun d => d.parameters.length) = some 1 := by decide +kernel
theorem npX3_roomTold : (parseMethodDescriptor MX3_roomTold.1.desc).map (fun d => d.parameters.length) = some 0 := by decide +kernel
theorem npX1_reached : (parseMethodDescriptor MX1_reached.1.desc).map (fun d => d.parameters.length) = some 0 := by decide +kernel
theorem npX3_letters : (parseMethodDescriptor MX3_letters.1.desc).map (fun d => d.parameters.length) = some 0 := by decide +kernel
theorem npX3_isOpen : (parseMethodDescriptor MX3_isOpen.1.desc).map (fun d => d.parameters.length) = some 1 := by decide +kernel
theorem npX3_isWatched : (parseMethodDescriptor MX3_isWatched.1.desc).map (fun d => d.parameters.length) = some 1 := by decide +kernel
theorem npJ9_min_7cf53 : (parseMethodDescriptor MJ9_min_7cf53.1.desc).map (fun d => d.parameters.length) = some 2 := by decide +kernel
theorem npX1_comeNearer : (parseMethodDescriptor MX1_comeNearer.1.desc).map (fun d => d.parameters.length) = some 2 := by decide +kernel
theorem npX1_allowOneMore : (parseMethodDescriptor MX1_allowOneMore.1.desc).map (fun d => d.parameters.length) = some 0 := by decide +kernel
theorem npX1_fullest : (parseMethodDescriptor MX1_fullest.1.desc).map (fun d => d.parameters.length) = some 2 := by decide +kernel
theorem npX1_homely : (parseMethodDescriptor MX1_homely.1.desc).map (fun d => d.parameters.length) = some 1 := by decide +kernel
theorem npX1_stepsTo : (parseMethodDescriptor MX1_stepsTo.1.desc).map (fun d => d.parameters.length) = some 1 := by decide +kernel
theorem npX2_onPaper : (parseMethodDescriptor MX2_onPaper.1.desc).map (fun d => d.parameters.length) = some 0 := by decide +kernel
theorem npX5_size : (parseMethodDescriptor MX5_size.1.desc).map (fun d => d.parameters.length) = some 0 := by decide +kernel
theorem npX2_begin : (parseMethodDescriptor MX2_begin.1.desc).map (fun d => d.parameters.length) = some 1 := by decide +kernel
theorem npX8_size : (parseMethodDescriptor MX8_size.1.desc).map (fun d => d.parameters.length) = some 0 := by decide +kernel
theorem npX8_at : (parseMethodDescriptor MX8_at.1.desc).map (fun d => d.parameters.length) = some 1 := by decide +kernel
theorem npX3_letterOf : (parseMethodDescriptor MX3_letterOf.1.desc).map (fun d => d.parameters.length) = some 1 := by decide +kernel
theorem npX5_strikes : (parseMethodDescriptor MX5_strikes.1.desc).map (fun d => d.parameters.length) = some 1 := by decide +kernel
theorem npX2_mayPass : (parseMethodDescriptor MX2_mayPass.1.desc).map (fun d => d.parameters.length) = some 1 := by decide +kernel
theorem npX5_stamp : (parseMethodDescriptor MX5_stamp.1.desc).map (fun d => d.parameters.length) = some 1 := by decide +kernel
theorem npX2_pass : (parseMethodDescriptor MX2_pass.1.desc).map (fun d => d.parameters.length) = some 1 := by decide +kernel
theorem npX2_follow : (parseMethodDescriptor MX2_follow.1.desc).map (fun d => d.parameters.length) = some 1 := by decide +kernel
theorem npX2_verdict : (parseMethodDescriptor MX2_verdict.1.desc).map (fun d => d.parameters.length) = some 1 := by decide +kernel
theorem npX3_forget : (parseMethodDescriptor MX3_forget.1.desc).map (fun d => d.parameters.length) = some 0 := by decide +kernel
theorem npX3_isFigure : (parseMethodDescriptor MX3_isFigure.1.desc).map (fun d => d.parameters.length) = some 1 := by decide +kernel
theorem npX3_takeRoom : (parseMethodDescriptor MX3_takeRoom.1.desc).map (fun d => d.parameters.length) = some 2 := by decide +kernel
theorem npX3_isTownByte : (parseMethodDescriptor MX3_isTownByte.1.desc).map (fun d => d.parameters.length) = some 1 := by decide +kernel
theorem npX3_takeGate : (parseMethodDescriptor MX3_takeGate.1.desc).map (fun d => d.parameters.length) = some 2 := by decide +kernel
theorem npX3_faultOf : (parseMethodDescriptor MX3_faultOf.1.desc).map (fun d => d.parameters.length) = some 1 := by decide +kernel
theorem npX3_learn : (parseMethodDescriptor MX3_learn.1.desc).map (fun d => d.parameters.length) = some 1 := by decide +kernel
theorem npX3_close : (parseMethodDescriptor MX3_close.1.desc).map (fun d => d.parameters.length) = some 1 := by decide +kernel
theorem npX3_faultPlace : (parseMethodDescriptor MX3_faultPlace.1.desc).map (fun d => d.parameters.length) = some 0 := by decide +kernel
theorem npJ6_bitCount_0f7a4 : (parseMethodDescriptor MJ6_bitCount_0f7a4.1.desc).map (fun d => d.parameters.length) = some 1 := by decide +kernel
theorem npX3_gatesWatched : (parseMethodDescriptor MX3_gatesWatched.1.desc).map (fun d => d.parameters.length) = some 0 := by decide +kernel
theorem npX3_hasGate : (parseMethodDescriptor MX3_hasGate.1.desc).map (fun d => d.parameters.length) = some 1 := by decide +kernel
theorem npX3_openGates : (parseMethodDescriptor MX3_openGates.1.desc).map (fun d => d.parameters.length) = some 0 := by decide +kernel
theorem npX4_isFull : (parseMethodDescriptor MX4_isFull.1.desc).map (fun d => d.parameters.length) = some 0 := by decide +kernel
theorem npX4_size : (parseMethodDescriptor MX4_size.1.desc).map (fun d => d.parameters.length) = some 0 := by decide +kernel
theorem npX5_at : (parseMethodDescriptor MX5_at.1.desc).map (fun d => d.parameters.length) = some 1 := by decide +kernel
theorem npX4_append : (parseMethodDescriptor MX4_append.1.desc).map (fun d => d.parameters.length) = some 2 := by decide +kernel
theorem npX4_dropLast : (parseMethodDescriptor MX4_dropLast.1.desc).map (fun d => d.parameters.length) = some 0 := by decide +kernel
theorem npX4_goodOnes : (parseMethodDescriptor MX4_goodOnes.1.desc).map (fun d => d.parameters.length) = some 0 := by decide +kernel
theorem npX4_stampsOf : (parseMethodDescriptor MX4_stampsOf.1.desc).map (fun d => d.parameters.length) = some 1 := by decide +kernel
theorem npX4_stampAt : (parseMethodDescriptor MX4_stampAt.1.desc).map (fun d => d.parameters.length) = some 2 := by decide +kernel
theorem npX4_unlikeAt : (parseMethodDescriptor MX4_unlikeAt.1.desc).map (fun d => d.parameters.length) = some 2 := by decide +kernel
theorem npX4_letsBy : (parseMethodDescriptor MX4_letsBy.1.desc).map (fun d => d.parameters.length) = some 2 := by decide +kernel
theorem npX4_unlikeOf : (parseMethodDescriptor MX4_unlikeOf.1.desc).map (fun d => d.parameters.length) = some 2 := by decide +kernel
theorem npX4_isLetBy : (parseMethodDescriptor MX4_isLetBy.1.desc).map (fun d => d.parameters.length) = some 2 := by decide +kernel
theorem npX4_slipping : (parseMethodDescriptor MX4_slipping.1.desc).map (fun d => d.parameters.length) = some 1 := by decide +kernel
theorem npX4_gatherUnlike : (parseMethodDescriptor MX4_gatherUnlike.1.desc).map (fun d => d.parameters.length) = some 0 := by decide +kernel
theorem npX4_partsAll : (parseMethodDescriptor MX4_partsAll.1.desc).map (fun d => d.parameters.length) = some 2 := by decide +kernel
theorem npX4_fewestPlaces : (parseMethodDescriptor MX4_fewestPlaces.1.desc).map (fun d => d.parameters.length) = some 0 := by decide +kernel
theorem npX5_empty : (parseMethodDescriptor MX5_empty.1.desc).map (fun d => d.parameters.length) = some 0 := by decide +kernel
theorem npX5_alike : (parseMethodDescriptor MX5_alike.1.desc).map (fun d => d.parameters.length) = some 1 := by decide +kernel
theorem npX6_need : (parseMethodDescriptor MX6_need.1.desc).map (fun d => d.parameters.length) = some 1 := by decide +kernel
theorem npX6_plan : (parseMethodDescriptor MX6_plan.1.desc).map (fun d => d.parameters.length) = some 2 := by decide +kernel
theorem npX6_needAt : (parseMethodDescriptor MX6_needAt.1.desc).map (fun d => d.parameters.length) = some 1 := by decide +kernel
theorem npX6_goal : (parseMethodDescriptor MX6_goal.1.desc).map (fun d => d.parameters.length) = some 2 := by decide +kernel
theorem npX6_origin : (parseMethodDescriptor MX6_origin.1.desc).map (fun d => d.parameters.length) = some 2 := by decide +kernel
theorem npX6_gatesBetween : (parseMethodDescriptor MX6_gatesBetween.1.desc).map (fun d => d.parameters.length) = some 2 := by decide +kernel
theorem npJ7_fill_d0a16 : (parseMethodDescriptor MJ7_fill_d0a16.1.desc).map (fun d => d.parameters.length) = some 2 := by decide +kernel
theorem npX6_isLane : (parseMethodDescriptor MX6_isLane.1.desc).map (fun d => d.parameters.length) = some 1 := by decide +kernel
theorem npX6_stepNearer : (parseMethodDescriptor MX6_stepNearer.1.desc).map (fun d => d.parameters.length) = some 2 := by decide +kernel
theorem npX6_laneWays : (parseMethodDescriptor MX6_laneWays.1.desc).map (fun d => d.parameters.length) = some 2 := by decide +kernel
theorem npX6_ways : (parseMethodDescriptor MX6_ways.1.desc).map (fun d => d.parameters.length) = some 2 := by decide +kernel
theorem npX6_leastNearer : (parseMethodDescriptor MX6_leastNearer.1.desc).map (fun d => d.parameters.length) = some 2 := by decide +kernel
theorem npX6_leastLaneLetter : (parseMethodDescriptor MX6_leastLaneLetter.1.desc).map (fun d => d.parameters.length) = some 3 := by decide +kernel
theorem npX6_leastLetter : (parseMethodDescriptor MX6_leastLetter.1.desc).map (fun d => d.parameters.length) = some 3 := by decide +kernel
theorem npX6_isChained : (parseMethodDescriptor MX6_isChained.1.desc).map (fun d => d.parameters.length) = some 0 := by decide +kernel
theorem npX6_starts : (parseMethodDescriptor MX6_starts.1.desc).map (fun d => d.parameters.length) = some 0 := by decide +kernel
theorem npX6_ends : (parseMethodDescriptor MX6_ends.1.desc).map (fun d => d.parameters.length) = some 0 := by decide +kernel
theorem npX7_find : (parseMethodDescriptor MX7_find.1.desc).map (fun d => d.parameters.length) = some 1 := by decide +kernel
theorem npX7_latestFinding : (parseMethodDescriptor MX7_latestFinding.1.desc).map (fun d => d.parameters.length) = some 0 := by decide +kernel
theorem npX7_isLost : (parseMethodDescriptor MX7_isLost.1.desc).map (fun d => d.parameters.length) = some 1 := by decide +kernel
theorem npX7_size : (parseMethodDescriptor MX7_size.1.desc).map (fun d => d.parameters.length) = some 1 := by decide +kernel
theorem npX7_make : (parseMethodDescriptor MX7_make.1.desc).map (fun d => d.parameters.length) = some 3 := by decide +kernel
theorem npX7_drop : (parseMethodDescriptor MX7_drop.1.desc).map (fun d => d.parameters.length) = some 1 := by decide +kernel
theorem npX7_findingAt : (parseMethodDescriptor MX7_findingAt.1.desc).map (fun d => d.parameters.length) = some 3 := by decide +kernel
theorem npX7_hasRun : (parseMethodDescriptor MX7_hasRun.1.desc).map (fun d => d.parameters.length) = some 3 := by decide +kernel
theorem npX7_findingOfCopy : (parseMethodDescriptor MX7_findingOfCopy.1.desc).map (fun d => d.parameters.length) = some 5 := by decide +kernel
theorem npX7_item : (parseMethodDescriptor MX7_item.1.desc).map (fun d => d.parameters.length) = some 2 := by decide +kernel
theorem npX7_put : (parseMethodDescriptor MX7_put.1.desc).map (fun d => d.parameters.length) = some 3 := by decide +kernel
theorem npX7_move : (parseMethodDescriptor MX7_move.1.desc).map (fun d => d.parameters.length) = some 5 := by decide +kernel
theorem npX8_isFull : (parseMethodDescriptor MX8_isFull.1.desc).map (fun d => d.parameters.length) = some 0 := by decide +kernel
theorem npX8_append : (parseMethodDescriptor MX8_append.1.desc).map (fun d => d.parameters.length) = some 1 := by decide +kernel
theorem npX8_empty : (parseMethodDescriptor MX8_empty.1.desc).map (fun d => d.parameters.length) = some 0 := by decide +kernel
theorem npX9_joinTowns : (parseMethodDescriptor MX9_joinTowns.1.desc).map (fun d => d.parameters.length) = some 0 := by decide +kernel
theorem npX9_goOnByLanes : (parseMethodDescriptor MX9_goOnByLanes.1.desc).map (fun d => d.parameters.length) = some 2 := by decide +kernel
theorem npX9_behindRounds : (parseMethodDescriptor MX9_behindRounds.1.desc).map (fun d => d.parameters.length) = some 4 := by decide +kernel
theorem npX9_lengthen : (parseMethodDescriptor MX9_lengthen.1.desc).map (fun d => d.parameters.length) = some 4 := by decide +kernel
theorem npX9_countRounds : (parseMethodDescriptor MX9_countRounds.1.desc).map (fun d => d.parameters.length) = some 1 := by decide +kernel
theorem npX9_countFrom : (parseMethodDescriptor MX9_countFrom.1.desc).map (fun d => d.parameters.length) = some 3 := by decide +kernel
theorem npX9_stampForGood : (parseMethodDescriptor MX9_stampForGood.1.desc).map (fun d => d.parameters.length) = some 2 := by decide +kernel
theorem npX9_number : (parseMethodDescriptor MX9_number.1.desc).map (fun d => d.parameters.length) = some 4 := by decide +kernel
theorem npX10_isText : (parseMethodDescriptor MX10_isText.1.desc).map (fun d => d.parameters.length) = some 1 := by decide +kernel
theorem npX10_learnIfLand : (parseMethodDescriptor MX10_learnIfLand.1.desc).map (fun d => d.parameters.length) = some 1 := by decide +kernel
theorem npX10_type : (parseMethodDescriptor MX10_type.1.desc).map (fun d => d.parameters.length) = some 2 := by decide +kernel
theorem npX10_wipe : (parseMethodDescriptor MX10_wipe.1.desc).map (fun d => d.parameters.length) = some 1 := by decide +kernel
theorem npX10_wayFault : (parseMethodDescriptor MX10_wayFault.1.desc).map (fun d => d.parameters.length) = some 1 := by decide +kernel
theorem npX10_fault : (parseMethodDescriptor MX10_fault.1.desc).map (fun d => d.parameters.length) = some 1 := by decide +kernel
theorem npX10_gate : (parseMethodDescriptor MX10_gate.1.desc).map (fun d => d.parameters.length) = some 2 := by decide +kernel
theorem npX10_room : (parseMethodDescriptor MX10_room.1.desc).map (fun d => d.parameters.length) = some 0 := by decide +kernel
theorem npX10_shut : (parseMethodDescriptor MX10_shut.1.desc).map (fun d => d.parameters.length) = some 1 := by decide +kernel
theorem npX10_isWay : (parseMethodDescriptor MX10_isWay.1.desc).map (fun d => d.parameters.length) = some 1 := by decide +kernel
theorem npX10_stampWay : (parseMethodDescriptor MX10_stampWay.1.desc).map (fun d => d.parameters.length) = some 2 := by decide +kernel
theorem npX10_byteOf : (parseMethodDescriptor MX10_byteOf.1.desc).map (fun d => d.parameters.length) = some 1 := by decide +kernel
theorem npX10_paper : (parseMethodDescriptor MX10_paper.1.desc).map (fun d => d.parameters.length) = some 2 := by decide +kernel
theorem npX10_isWayOrClean : (parseMethodDescriptor MX10_isWayOrClean.1.desc).map (fun d => d.parameters.length) = some 1 := by decide +kernel
theorem npX10_judgeWay : (parseMethodDescriptor MX10_judgeWay.1.desc).map (fun d => d.parameters.length) = some 3 := by decide +kernel
theorem npX10_judged : (parseMethodDescriptor MX10_judged.1.desc).map (fun d => d.parameters.length) = some 4 := by decide +kernel
theorem npX10_same : (parseMethodDescriptor MX10_same.1.desc).map (fun d => d.parameters.length) = some 2 := by decide +kernel
theorem npX10_areEnds : (parseMethodDescriptor MX10_areEnds.1.desc).map (fun d => d.parameters.length) = some 4 := by decide +kernel
theorem npX10_longRefusal : (parseMethodDescriptor MX10_longRefusal.1.desc).map (fun d => d.parameters.length) = some 1 := by decide +kernel
theorem npX10_planRoute : (parseMethodDescriptor MX10_planRoute.1.desc).map (fun d => d.parameters.length) = some 4 := by decide +kernel
theorem npX10_shortest : (parseMethodDescriptor MX10_shortest.1.desc).map (fun d => d.parameters.length) = some 5 := by decide +kernel
theorem npX10_letter : (parseMethodDescriptor MX10_letter.1.desc).map (fun d => d.parameters.length) = some 5 := by decide +kernel
theorem npX10_errands : (parseMethodDescriptor MX10_errands.1.desc).map (fun d => d.parameters.length) = some 3 := by decide +kernel
theorem npX10_clean : (parseMethodDescriptor MX10_clean.1.desc).map (fun d => d.parameters.length) = some 1 := by decide +kernel
theorem npX10_found : (parseMethodDescriptor MX10_found.1.desc).map (fun d => d.parameters.length) = some 2 := by decide +kernel
theorem npX10_many : (parseMethodDescriptor MX10_many.1.desc).map (fun d => d.parameters.length) = some 4 := by decide +kernel
theorem npX10_list : (parseMethodDescriptor MX10_list.1.desc).map (fun d => d.parameters.length) = some 2 := by decide +kernel
theorem npX10_isSheet : (parseMethodDescriptor MX10_isSheet.1.desc).map (fun d => d.parameters.length) = some 1 := by decide +kernel
theorem npX10_listIfRoom : (parseMethodDescriptor MX10_listIfRoom.1.desc).map (fun d => d.parameters.length) = some 1 := by decide +kernel
theorem npX10_read : (parseMethodDescriptor MX10_read.1.desc).map (fun d => d.parameters.length) = some 1 := by decide +kernel
theorem npX10_unlist : (parseMethodDescriptor MX10_unlist.1.desc).map (fun d => d.parameters.length) = some 0 := by decide +kernel
theorem npX10_listed : (parseMethodDescriptor MX10_listed.1.desc).map (fun d => d.parameters.length) = some 2 := by decide +kernel
theorem npX10_arePlaces : (parseMethodDescriptor MX10_arePlaces.1.desc).map (fun d => d.parameters.length) = some 1 := by decide +kernel
theorem npX10_lets : (parseMethodDescriptor MX10_lets.1.desc).map (fun d => d.parameters.length) = some 2 := by decide +kernel
theorem npX10_slips : (parseMethodDescriptor MX10_slips.1.desc).map (fun d => d.parameters.length) = some 1 := by decide +kernel
theorem npX10_fewest : (parseMethodDescriptor MX10_fewest.1.desc).map (fun d => d.parameters.length) = some 0 := by decide +kernel
theorem npX10_far : (parseMethodDescriptor MX10_far.1.desc).map (fun d => d.parameters.length) = some 2 := by decide +kernel
theorem npX10_without : (parseMethodDescriptor MX10_without.1.desc).map (fun d => d.parameters.length) = some 2 := by decide +kernel
theorem npX10_with : (parseMethodDescriptor MX10_with.1.desc).map (fun d => d.parameters.length) = some 3 := by decide +kernel
theorem npX10_isForm : (parseMethodDescriptor MX10_isForm.1.desc).map (fun d => d.parameters.length) = some 1 := by decide +kernel
theorem npX10_sheet : (parseMethodDescriptor MX10_sheet.1.desc).map (fun d => d.parameters.length) = some 3 := by decide +kernel
theorem npX10_lose : (parseMethodDescriptor MX10_lose.1.desc).map (fun d => d.parameters.length) = some 1 := by decide +kernel
theorem npX10_lay : (parseMethodDescriptor MX10_lay.1.desc).map (fun d => d.parameters.length) = some 4 := by decide +kernel
theorem npX10_get : (parseMethodDescriptor MX10_get.1.desc).map (fun d => d.parameters.length) = some 3 := by decide +kernel
theorem npX10_copy : (parseMethodDescriptor MX10_copy.1.desc).map (fun d => d.parameters.length) = some 5 := by decide +kernel
theorem npX10_write : (parseMethodDescriptor MX10_write.1.desc).map (fun d => d.parameters.length) = some 2 := by decide +kernel
theorem npX10_count : (parseMethodDescriptor MX10_count.1.desc).map (fun d => d.parameters.length) = some 1 := by decide +kernel
theorem npX10_digestGate : (parseMethodDescriptor MX10_digestGate.1.desc).map (fun d => d.parameters.length) = some 2 := by decide +kernel
theorem npX10_digestWay : (parseMethodDescriptor MX10_digestWay.1.desc).map (fun d => d.parameters.length) = some 2 := by decide +kernel
theorem npX10_digestTown : (parseMethodDescriptor MX10_digestTown.1.desc).map (fun d => d.parameters.length) = some 2 := by decide +kernel
theorem npX10_digest : (parseMethodDescriptor MX10_digest.1.desc).map (fun d => d.parameters.length) = some 0 := by decide +kernel
theorem npX11_in : (parseMethodDescriptor MX11_in.1.desc).map (fun d => d.parameters.length) = some 3 := by decide +kernel
theorem npX11_no : (parseMethodDescriptor MX11_no.1.desc).map (fun d => d.parameters.length) = some 1 := by decide +kernel
theorem npX11_isTwo : (parseMethodDescriptor MX11_isTwo.1.desc).map (fun d => d.parameters.length) = some 1 := by decide +kernel
theorem npX11_isTown : (parseMethodDescriptor MX11_isTown.1.desc).map (fun d => d.parameters.length) = some 1 := by decide +kernel
theorem npX11_met : (parseMethodDescriptor MX11_met.1.desc).map (fun d => d.parameters.length) = some 1 := by decide +kernel
theorem npX11_isSheet : (parseMethodDescriptor MX11_isSheet.1.desc).map (fun d => d.parameters.length) = some 1 := by decide +kernel
theorem npX11_sheet : (parseMethodDescriptor MX11_sheet.1.desc).map (fun d => d.parameters.length) = some 3 := by decide +kernel
theorem npX11_lose : (parseMethodDescriptor MX11_lose.1.desc).map (fun d => d.parameters.length) = some 1 := by decide +kernel
theorem npX11_lacks : (parseMethodDescriptor MX11_lacks.1.desc).map (fun d => d.parameters.length) = some 3 := by decide +kernel
theorem npX11_cut : (parseMethodDescriptor MX11_cut.1.desc).map (fun d => d.parameters.length) = some 2 := by decide +kernel
theorem npX11_lay : (parseMethodDescriptor MX11_lay.1.desc).map (fun d => d.parameters.length) = some 4 := by decide +kernel
theorem npX11_get : (parseMethodDescriptor MX11_get.1.desc).map (fun d => d.parameters.length) = some 3 := by decide +kernel
theorem npX11_copy : (parseMethodDescriptor MX11_copy.1.desc).map (fun d => d.parameters.length) = some 5 := by decide +kernel
theorem npX11_isText : (parseMethodDescriptor MX11_isText.1.desc).map (fun d => d.parameters.length) = some 1 := by decide +kernel
theorem npX11_isWay : (parseMethodDescriptor MX11_isWay.1.desc).map (fun d => d.parameters.length) = some 1 := by decide +kernel
theorem npX11_from : (parseMethodDescriptor MX11_from.1.desc).map (fun d => d.parameters.length) = some 1 := by decide +kernel
theorem npX11_type : (parseMethodDescriptor MX11_type.1.desc).map (fun d => d.parameters.length) = some 2 := by decide +kernel
theorem npX11_wipe : (parseMethodDescriptor MX11_wipe.1.desc).map (fun d => d.parameters.length) = some 1 := by decide +kernel
theorem npX11_here : (parseMethodDescriptor MX11_here.1.desc).map (fun d => d.parameters.length) = some 0 := by decide +kernel
theorem npX11_clears : (parseMethodDescriptor MX11_clears.1.desc).map (fun d => d.parameters.length) = some 0 := by decide +kernel
theorem npX11_readsRoom : (parseMethodDescriptor MX11_readsRoom.1.desc).map (fun d => d.parameters.length) = some 0 := by decide +kernel
theorem npX11_readsPart : (parseMethodDescriptor MX11_readsPart.1.desc).map (fun d => d.parameters.length) = some 0 := by decide +kernel
theorem npX11_readsLand : (parseMethodDescriptor MX11_readsLand.1.desc).map (fun d => d.parameters.length) = some 0 := by decide +kernel
theorem npX11_letterOf : (parseMethodDescriptor MX11_letterOf.1.desc).map (fun d => d.parameters.length) = some 1 := by decide +kernel
theorem npX11_byteOf : (parseMethodDescriptor MX11_byteOf.1.desc).map (fun d => d.parameters.length) = some 1 := by decide +kernel
theorem npX11_faultOf : (parseMethodDescriptor MX11_faultOf.1.desc).map (fun d => d.parameters.length) = some 1 := by decide +kernel
theorem npX11_fault : (parseMethodDescriptor MX11_fault.1.desc).map (fun d => d.parameters.length) = some 1 := by decide +kernel
theorem npX11_start : (parseMethodDescriptor MX11_start.1.desc).map (fun d => d.parameters.length) = some 1 := by decide +kernel
theorem npX11_end : (parseMethodDescriptor MX11_end.1.desc).map (fun d => d.parameters.length) = some 1 := by decide +kernel
theorem npX11_back : (parseMethodDescriptor MX11_back.1.desc).map (fun d => d.parameters.length) = some 1 := by decide +kernel
theorem npX11_isShut : (parseMethodDescriptor MX11_isShut.1.desc).map (fun d => d.parameters.length) = some 1 := by decide +kernel
theorem npX11_gate : (parseMethodDescriptor MX11_gate.1.desc).map (fun d => d.parameters.length) = some 2 := by decide +kernel
theorem npX11_room : (parseMethodDescriptor MX11_room.1.desc).map (fun d => d.parameters.length) = some 0 := by decide +kernel
theorem npX11_shut : (parseMethodDescriptor MX11_shut.1.desc).map (fun d => d.parameters.length) = some 1 := by decide +kernel
theorem npX11_stamp : (parseMethodDescriptor MX11_stamp.1.desc).map (fun d => d.parameters.length) = some 2 := by decide +kernel
theorem npX11_lengthOf : (parseMethodDescriptor MX11_lengthOf.1.desc).map (fun d => d.parameters.length) = some 1 := by decide +kernel
theorem npX11_letterAt : (parseMethodDescriptor MX11_letterAt.1.desc).map (fun d => d.parameters.length) = some 2 := by decide +kernel
theorem npX11_findPaper : (parseMethodDescriptor MX11_findPaper.1.desc).map (fun d => d.parameters.length) = some 2 := by decide +kernel
theorem npX11_paper : (parseMethodDescriptor MX11_paper.1.desc).map (fun d => d.parameters.length) = some 2 := by decide +kernel
theorem npX11_isBegun : (parseMethodDescriptor MX11_isBegun.1.desc).map (fun d => d.parameters.length) = some 1 := by decide +kernel
theorem npX11_judgedOf : (parseMethodDescriptor MX11_judgedOf.1.desc).map (fun d => d.parameters.length) = some 4 := by decide +kernel
theorem npX11_judged : (parseMethodDescriptor MX11_judged.1.desc).map (fun d => d.parameters.length) = some 4 := by decide +kernel
theorem npX11_alike : (parseMethodDescriptor MX11_alike.1.desc).map (fun d => d.parameters.length) = some 0 := by decide +kernel
theorem npX11_sameOf : (parseMethodDescriptor MX11_sameOf.1.desc).map (fun d => d.parameters.length) = some 2 := by decide +kernel
theorem npX11_same : (parseMethodDescriptor MX11_same.1.desc).map (fun d => d.parameters.length) = some 2 := by decide +kernel
theorem npX11_isUnseen : (parseMethodDescriptor MX11_isUnseen.1.desc).map (fun d => d.parameters.length) = some 1 := by decide +kernel
theorem npX11_findUnseen : (parseMethodDescriptor MX11_findUnseen.1.desc).map (fun d => d.parameters.length) = some 0 := by decide +kernel
theorem npX11_findBetween : (parseMethodDescriptor MX11_findBetween.1.desc).map (fun d => d.parameters.length) = some 0 := by decide +kernel
theorem npX11_goesOn : (parseMethodDescriptor MX11_goesOn.1.desc).map (fun d => d.parameters.length) = some 2 := by decide +kernel
theorem npX11_findShortest : (parseMethodDescriptor MX11_findShortest.1.desc).map (fun d => d.parameters.length) = some 4 := by decide +kernel
theorem npX11_shortestOf : (parseMethodDescriptor MX11_shortestOf.1.desc).map (fun d => d.parameters.length) = some 5 := by decide +kernel
theorem npX11_isAsked : (parseMethodDescriptor MX11_isAsked.1.desc).map (fun d => d.parameters.length) = some 4 := by decide +kernel
theorem npX11_shortest : (parseMethodDescriptor MX11_shortest.1.desc).map (fun d => d.parameters.length) = some 5 := by decide +kernel
theorem npX11_leastUnseen : (parseMethodDescriptor MX11_leastUnseen.1.desc).map (fun d => d.parameters.length) = some 2 := by decide +kernel
theorem npX11_letter : (parseMethodDescriptor MX11_letter.1.desc).map (fun d => d.parameters.length) = some 5 := by decide +kernel
theorem npX11_findErrands : (parseMethodDescriptor MX11_findErrands.1.desc).map (fun d => d.parameters.length) = some 1 := by decide +kernel
theorem npX11_stampsTo : (parseMethodDescriptor MX11_stampsTo.1.desc).map (fun d => d.parameters.length) = some 1 := by decide +kernel
theorem npX11_errandsOf : (parseMethodDescriptor MX11_errandsOf.1.desc).map (fun d => d.parameters.length) = some 3 := by decide +kernel
theorem npX11_errands : (parseMethodDescriptor MX11_errands.1.desc).map (fun d => d.parameters.length) = some 3 := by decide +kernel
theorem npX11_cleanOf : (parseMethodDescriptor MX11_cleanOf.1.desc).map (fun d => d.parameters.length) = some 1 := by decide +kernel
theorem npX11_clean : (parseMethodDescriptor MX11_clean.1.desc).map (fun d => d.parameters.length) = some 1 := by decide +kernel
theorem npX11_foundOf : (parseMethodDescriptor MX11_foundOf.1.desc).map (fun d => d.parameters.length) = some 2 := by decide +kernel
theorem npX11_found : (parseMethodDescriptor MX11_found.1.desc).map (fun d => d.parameters.length) = some 2 := by decide +kernel
theorem npX11_index : (parseMethodDescriptor MX11_index.1.desc).map (fun d => d.parameters.length) = some 4 := by decide +kernel
theorem npX11_closedBy : (parseMethodDescriptor MX11_closedBy.1.desc).map (fun d => d.parameters.length) = some 5 := by decide +kernel
theorem npX11_findClosed : (parseMethodDescriptor MX11_findClosed.1.desc).map (fun d => d.parameters.length) = some 1 := by decide +kernel
theorem npX11_follows : (parseMethodDescriptor MX11_follows.1.desc).map (fun d => d.parameters.length) = some 4 := by decide +kernel
theorem npX11_manyOf : (parseMethodDescriptor MX11_manyOf.1.desc).map (fun d => d.parameters.length) = some 4 := by decide +kernel
theorem npX11_many : (parseMethodDescriptor MX11_many.1.desc).map (fun d => d.parameters.length) = some 4 := by decide +kernel
theorem npX11_lists : (parseMethodDescriptor MX11_lists.1.desc).map (fun d => d.parameters.length) = some 1 := by decide +kernel
theorem npX11_list : (parseMethodDescriptor MX11_list.1.desc).map (fun d => d.parameters.length) = some 2 := by decide +kernel
theorem npX11_read : (parseMethodDescriptor MX11_read.1.desc).map (fun d => d.parameters.length) = some 1 := by decide +kernel
theorem npX11_unlist : (parseMethodDescriptor MX11_unlist.1.desc).map (fun d => d.parameters.length) = some 0 := by decide +kernel
theorem npX11_listedAt : (parseMethodDescriptor MX11_listedAt.1.desc).map (fun d => d.parameters.length) = some 2 := by decide +kernel
theorem npX11_listed : (parseMethodDescriptor MX11_listed.1.desc).map (fun d => d.parameters.length) = some 2 := by decide +kernel
theorem npX11_letsBy : (parseMethodDescriptor MX11_letsBy.1.desc).map (fun d => d.parameters.length) = some 1 := by decide +kernel
theorem npX11_arePlaces : (parseMethodDescriptor MX11_arePlaces.1.desc).map (fun d => d.parameters.length) = some 1 := by decide +kernel
theorem npX11_lets : (parseMethodDescriptor MX11_lets.1.desc).map (fun d => d.parameters.length) = some 2 := by decide +kernel
theorem npX11_slipsOf : (parseMethodDescriptor MX11_slipsOf.1.desc).map (fun d => d.parameters.length) = some 1 := by decide +kernel
theorem npX11_slips : (parseMethodDescriptor MX11_slips.1.desc).map (fun d => d.parameters.length) = some 1 := by decide +kernel
theorem npX11_ones : (parseMethodDescriptor MX11_ones.1.desc).map (fun d => d.parameters.length) = some 1 := by decide +kernel
theorem npX11_fewestNow : (parseMethodDescriptor MX11_fewestNow.1.desc).map (fun d => d.parameters.length) = some 0 := by decide +kernel
theorem npX11_fewest : (parseMethodDescriptor MX11_fewest.1.desc).map (fun d => d.parameters.length) = some 0 := by decide +kernel
theorem npX11_joins : (parseMethodDescriptor MX11_joins.1.desc).map (fun d => d.parameters.length) = some 2 := by decide +kernel
theorem npX11_findFar : (parseMethodDescriptor MX11_findFar.1.desc).map (fun d => d.parameters.length) = some 3 := by decide +kernel
theorem npX11_farOf : (parseMethodDescriptor MX11_farOf.1.desc).map (fun d => d.parameters.length) = some 2 := by decide +kernel
theorem npX11_far : (parseMethodDescriptor MX11_far.1.desc).map (fun d => d.parameters.length) = some 2 := by decide +kernel
theorem npX11_changed : (parseMethodDescriptor MX11_changed.1.desc).map (fun d => d.parameters.length) = some 4 := by decide +kernel
theorem npX11_without : (parseMethodDescriptor MX11_without.1.desc).map (fun d => d.parameters.length) = some 2 := by decide +kernel
theorem npX11_with : (parseMethodDescriptor MX11_with.1.desc).map (fun d => d.parameters.length) = some 3 := by decide +kernel
theorem npX11_write : (parseMethodDescriptor MX11_write.1.desc).map (fun d => d.parameters.length) = some 2 := by decide +kernel
theorem npX11_count : (parseMethodDescriptor MX11_count.1.desc).map (fun d => d.parameters.length) = some 1 := by decide +kernel
theorem npX11_digest : (parseMethodDescriptor MX11_digest.1.desc).map (fun d => d.parameters.length) = some 0 := by decide +kernel
