section YANEW
variable {p : Program} {l : Launch} {e : Env} {R : Room} {s : State} {m : MethodId} {args : Array Value} {below : List Frame} {meth : Method} {c : Code} {H H0 : Heap} {locs : List Loc} {cells slots : Nat} {Q : State → Prop} {D : va_G} {cl : List vw_C} {tz : List (ClassId × FieldType)} {ws : va_W} {A : Nat → Prop} {cc : ByteArray} {pc : Nat} {ls : Array Slot} {rest : List Value}
theorem y_anew {own C : String} {index qk h N : Nat} {cT : ClassId} {n : Int32} (hexec : p.tables.exec = Jvm.exec) (hb : c.code = cc) (hown : s.vm.findClass own = some m.cls) (hclink : (Cond.classLink own index C).before args s = true) (hover : (Cond.arrayOver (.object C)).before args s = true) (hK : va_K D cl tz s) (hq : tz[qk]? = some (cT, .object C)) (hP : va_P D cl ws H) (hD : va_D A ws) (hS : va_S A H0 H locs) (hA : ∀ q, H0.size ≤ q → A q)
    (hn : ¬ n < 0) (hN : n.toNatClampNeg = N) (hbytes : N * 4 ≤ 536870912) (hcells : cells + 1 ≤ R.cells) (hslots : slots + N ≤ R.slots) (hh : H.size = h) (hdg : decode cc pc = .ok (.anewarray index, 3))
    (kk : ∀ H1 : Heap, H1.size = h + 1 → va_P D cl (ws ++ [(h, .inl (cT, N, .inr (.inr (.inr (.inr (fun _ => none))))))]) H1 → va_D A (ws ++ [(h, .inl (cT, N, .inr (.inr (.inr (.inr (fun _ => none))))))]) → va_S A H0 H1 locs → W p l e R s m args below meth c H1 locs (cells + 1) (slots + N) Q (F0 m (pc + 3) ls (.ref h :: rest))) : W p l e R s m args below meth c H locs cells slots Q (F0 m pc ls (.int n :: rest)) := by
  subst hN
  subst hh
  refine W.anew hexec hb hown hclink hover rfl hdg rfl hn hbytes hcells hslots fun cA kA comp h1 h2 h3 h4 => ?_
  obtain ⟨kA', comp', -, -, -, k4⟩ := (hK.2 qk _ hq).2
  have hc : cA = cT := Option.some.inj (h1.symm.trans k4)
  subst hc
  have hAh : ∀ q, H.size ≤ q → A q := fun q z => hA q (Nat.le_trans hS.1 z)
  have ho : ∀ q, q < H.size → (H.push { cls := cA, slots := Array.replicate n.toNatClampNeg Value.null, vm := .none })[q]? = H[q]? := fun q hq => by rw [Array.getElem?_push, if_neg (Nat.ne_of_lt hq)]
  obtain ⟨hP1, hD1⟩ := y_add (b := H.size) (n := 1) (w1 := [(H.size, .inl (cA, n.toNatClampNeg, .inr (.inr (.inr (.inr (fun _ => none))))))]) hP hD (fun k q hk => (hP k q hk).lt) hAh rfl ho (fun k q hk => by
    cases k with
    | zero =>
      cases hk
      show (H.push _)[H.size]? = some (vp_cell _ _)
      rw [vp_cell_q, Array.getElem?_push, if_pos rfl, arrV_new]
      rfl
    | succ k => cases hk)
  exact kk _ (by simp) hP1 hD1 (y_grow rfl hS (by simp) ho)
end YANEW
theorem y_refs {D : va_G} {cl : List vw_C} {a n : Nat} {cI : ClassId} {f g : Nat → Option Nat} {H : Heap} (h : ∀ j, j < n → f j = g j) (hP : va_at D cl (a, .inl (cI, n, .inr (.inr (.inr (.inr f))))) H) : va_at D cl (a, .inl (cI, n, .inr (.inr (.inr (.inr g))))) H := by
  have hP : H[a]? = some (vp_cell cI (n, .inr (.inr (.inr (.inr f))))) := hP
  show H[a]? = some (vp_cell cI (n, .inr (.inr (.inr (.inr g)))))
  rw [hP, vp_cell_q, vp_cell_q, arrV_eq cI n (fun j hj => by rw [h j hj])]
theorem y_isx : ∀ i, i < 123 → i ≠ 0 → i ≠ 3 → i ∈ ([1, 2] ++ [4, 5] ++ [6, 7] ++ [8, 9, 10] ++ [11, 12, 13, 14, 15, 16, 17, 18, 19, 20, 21, 22, 23, 24, 25, 26] ++ [27, 28, 29, 30, 31, 32, 33, 34, 35, 36, 37, 38, 39, 40, 41] ++ [42, 43, 44, 45, 46, 47, 48, 49, 50, 51, 52, 53, 54, 55, 56, 57, 58, 59, 60, 61, 62, 63, 64, 65, 66, 67, 68, 69, 70, 71, 72, 73, 74, 75, 76, 77] ++ [78, 79, 80, 81, 82] ++ [83, 84, 85, 86, 87, 88, 89, 90, 91, 92, 93, 94] ++ [95, 96, 97, 98, 99, 100, 101, 102, 103, 104, 105, 106] ++ [107, 108, 109, 110, 111, 112, 113, 114] ++ [115, 116] ++ [117, 118] ++ [119, 120] ++ [121, 122]) := by decide +kernel
theorem y_all (E : EV) {H : Heap} (hP : va_P E.2.1 classes ((E.2.2.2, .inr (10, [.ref (E.2.2.2 + 1), .ref (E.2.2.2 + 3), .ref (E.2.2.2 + 4), .ref (E.2.2.2 + 6), .ref (E.2.2.2 + 8), .ref (E.2.2.2 + 11), .ref (E.2.2.2 + 27), .ref (E.2.2.2 + 42), .ref (E.2.2.2 + 78), .ref (E.2.2.2 + 83), .ref (E.2.2.2 + 95), .ref (E.2.2.2 + 107)])) :: (E.2.2.2 + 3, .inl (E.2.2.1 23, 4, .inr (.inr (.inr (.inr (va_up (va_up (va_up (va_up (fun _ => none) 0 (some (E.2.2.2 + 115))) 1 (some (E.2.2.2 + 117))) 2 (some (E.2.2.2 + 119))) 3 (some (E.2.2.2 + 121)))))))) :: mk E ([1, 2] ++ [4, 5] ++ [6, 7] ++ [8, 9, 10] ++ [11, 12, 13, 14, 15, 16, 17, 18, 19, 20, 21, 22, 23, 24, 25, 26] ++ [27, 28, 29, 30, 31, 32, 33, 34, 35, 36, 37, 38, 39, 40, 41] ++ [42, 43, 44, 45, 46, 47, 48, 49, 50, 51, 52, 53, 54, 55, 56, 57, 58, 59, 60, 61, 62, 63, 64, 65, 66, 67, 68, 69, 70, 71, 72, 73, 74, 75, 76, 77] ++ [78, 79, 80, 81, 82] ++ [83, 84, 85, 86, 87, 88, 89, 90, 91, 92, 93, 94] ++ [95, 96, 97, 98, 99, 100, 101, 102, 103, 104, 105, 106] ++ [107, 108, 109, 110, 111, 112, 113, 114] ++ [115, 116] ++ [117, 118] ++ [119, 120] ++ [121, 122])) H) : va_P E.2.1 classes (mk E (List.range 123)) H := by
  intro k q hk
  obtain ⟨i, hi, rfl⟩ := List.mem_map.mp (List.mem_of_getElem? hk)
  have hi := List.mem_range.mp hi
  by_cases w0 : i = 0
  · subst w0
    exact hP 0 _ rfl
  · by_cases w3 : i = 3
    · subst w3
      rw [ce_ref (E := E) (μ := m0) (a := 3) (k := 23) rfl (by decide)]
      refine y_refs (fun j hj => ?_) (hP 1 _ rfl)
      have hj : j < 4 := hj
      rcases (show j = 0 ∨ j = 1 ∨ j = 2 ∨ j = 3 by omega) with rfl | rfl | rfl | rfl <;> rfl
    · obtain ⟨j, hj⟩ := List.getElem?_of_mem (List.mem_map.mpr ⟨i, y_isx i hi w0 w3, rfl⟩ : (E.2.2.2 + i, ce E m0 i) ∈ mk E ([1, 2] ++ [4, 5] ++ [6, 7] ++ [8, 9, 10] ++ [11, 12, 13, 14, 15, 16, 17, 18, 19, 20, 21, 22, 23, 24, 25, 26] ++ [27, 28, 29, 30, 31, 32, 33, 34, 35, 36, 37, 38, 39, 40, 41] ++ [42, 43, 44, 45, 46, 47, 48, 49, 50, 51, 52, 53, 54, 55, 56, 57, 58, 59, 60, 61, 62, 63, 64, 65, 66, 67, 68, 69, 70, 71, 72, 73, 74, 75, 76, 77] ++ [78, 79, 80, 81, 82] ++ [83, 84, 85, 86, 87, 88, 89, 90, 91, 92, 93, 94] ++ [95, 96, 97, 98, 99, 100, 101, 102, 103, 104, 105, 106] ++ [107, 108, 109, 110, 111, 112, 113, 114] ++ [115, 116] ++ [117, 118] ++ [119, 120] ++ [121, 122]))
      exact hP (j + 2) _ hj
section CN10
def tX10_init : List (Nat × Instr × Nat) := [(0, .aload_n 0, 1), (1, .invokespecial 3, 3), (4, .aload_n 0, 1), (5, .new 9, 3), (8, .dup, 1), (9, .invokespecial 11, 3), (12, .putfield 12, 3), (15, .aload_n 0, 1), (16, .iconst 4, 1), (17, .anewarray 16, 3), (20, .putfield 18, 3), (23, .aload_n 0, 1), (24, .new 22, 3), (27, .dup, 1), (28, .invokespecial 24, 3), (31, .putfield 25, 3), (34, .aload_n 0, 1), (35, .new 22, 3), (38, .dup, 1), (39, .invokespecial 24, 3), (42, .putfield 29, 3), (45, .aload_n 0, 1), (46, .new 32, 3), (49, .dup, 1), (50, .aload_n 0, 1), (51, .getfield 12, 3), (54, .invokespecial 34, 3), (57, .putfield 37, 3), (60, .aload_n 0, 1), (61, .new 41, 3), (64, .dup, 1), (65, .aload_n 0, 1), (66, .getfield 12, 3), (69, .invokespecial 43, 3), (72, .putfield 44, 3), (75, .aload_n 0, 1), (76, .new 48, 3), (79, .dup, 1), (80, .aload_n 0, 1), (81, .getfield 12, 3), (84, .invokespecial 50, 3), (87, .putfield 51, 3), (90, .aload_n 0, 1), (91, .new 55, 3), (94, .dup, 1), (95, .aload_n 0, 1), (96, .getfield 12, 3), (99, .invokespecial 57, 3), (102, .putfield 58, 3), (105, .aload_n 0, 1), (106, .new 62, 3), (109, .dup, 1), (110, .invokespecial 64, 3), (113, .putfield 65, 3), (116, .aload_n 0, 1), (117, .new 69, 3), (120, .dup, 1), (121, .invokespecial 71, 3), (124, .putfield 72, 3), (127, .aload_n 0, 1), (128, .new 69, 3), (131, .dup, 1), (132, .invokespecial 71, 3), (135, .putfield 76, 3), (138, .aload_n 0, 1), (139, .new 79, 3), (142, .dup, 1), (143, .invokespecial 81, 3), (146, .putfield 82, 3), (149, .iconst 0, 1), (150, .istore_n 1, 1), (151, .iload_n 1, 1), (152, .iconst 4, 1), (153, .if_icmp .ge 33, 3), (156, .aload_n 0, 1), (157, .getfield 18, 3), (160, .iload_n 1, 1), (161, .new 16, 3), (164, .dup, 1), (165, .iload_n 1, 1), (166, .ifCond .ne 8, 3), (169, .bipush 50, 2), (171, .goto 5, 3), (174, .bipush 30, 2), (176, .invokespecial 86, 3), (179, .aastore, 1), (180, .iinc 1 1, 3), (183, .goto (-32), 3), (186, .return_, 1)]
theorem zX10_init : (tX10_init.all fun q => decide (decode cX10_init q.1 = .ok q.2)) = true := by decide +kernel
abbrev MX10_init : MT := (yX10_init, cX10_init, 2, none, 3, 53)
theorem wk_obj10 : Cond.methodLink RX10 3 objectInit ∈ tbG := tb_at 22 (by decide +kernel) (by decide +kernel)
theorem wk_cd3 : Cond.code yX3_init cX3_init 1 none ∈ tbG := tb_at 29 (by decide +kernel) (by decide +kernel)
theorem wk_in3 : Cond.initialized RX3 ∈ tbG := tb_at 2 (by decide +kernel) (by decide +kernel)
theorem wk_is3 : Cond.instantiable RX3 6 ∈ tbG := tb_at 26 (by decide +kernel) (by decide +kernel)
theorem wk_im3 : Cond.instanceMethod yX3_init ∈ tbG := tb_at 28 (by decide +kernel) (by decide +kernel)
theorem wk_cl10_9 : Cond.classLink RX10 9 RX3 ∈ tbG := tb_at 25 (by decide +kernel) (by decide +kernel)
theorem wk_f10_12 : Cond.fieldLink RX10 12 RX10 (TX10 0).2.1 (TX10 0).2.2.1 ∈ tbG := tb_at 255 (by decide +kernel) (by decide +kernel)
theorem wk_cl10_16 : Cond.classLink RX10 16 RX8 ∈ tbG := tb_at 51 (by decide +kernel) (by decide +kernel)
theorem wk_f10_18 : Cond.fieldLink RX10 18 RX10 (TX10 1).2.1 (TX10 1).2.2.1 ∈ tbG := tb_at 256 (by decide +kernel) (by decide +kernel)
theorem wk_cl10_22 : Cond.classLink RX10 22 RX5 ∈ tbG := tb_at 53 (by decide +kernel) (by decide +kernel)
theorem wk_f10_25 : Cond.fieldLink RX10 25 RX10 (TX10 2).2.1 (TX10 2).2.2.1 ∈ tbG := tb_at 257 (by decide +kernel) (by decide +kernel)
theorem wk_f10_29 : Cond.fieldLink RX10 29 RX10 (TX10 3).2.1 (TX10 3).2.2.1 ∈ tbG := tb_at 258 (by decide +kernel) (by decide +kernel)
theorem wk_cd2 : Cond.code yX2_init cX2_init 2 none ∈ tbG := tb_at 70 (by decide +kernel) (by decide +kernel)
theorem wk_in2 : Cond.initialized RX2 ∈ tbG := tb_at 4 (by decide +kernel) (by decide +kernel)
theorem wk_is2 : Cond.instantiable RX2 6 ∈ tbG := tb_at 67 (by decide +kernel) (by decide +kernel)
theorem wk_im2 : Cond.instanceMethod yX2_init ∈ tbG := tb_at 69 (by decide +kernel) (by decide +kernel)
theorem wk_cl10_32 : Cond.classLink RX10 32 RX2 ∈ tbG := tb_at 66 (by decide +kernel) (by decide +kernel)
theorem wk_ml10_34 : Cond.methodLink RX10 34 yX2_init ∈ tbG := tb_at 68 (by decide +kernel) (by decide +kernel)
theorem wk_f10_37 : Cond.fieldLink RX10 37 RX10 (TX10 4).2.1 (TX10 4).2.2.1 ∈ tbG := tb_at 259 (by decide +kernel) (by decide +kernel)
theorem wk_cd6 : Cond.code yX6_init cX6_init 2 none ∈ tbG := tb_at 97 (by decide +kernel) (by decide +kernel)
theorem wk_in6 : Cond.initialized RX6 ∈ tbG := tb_at 5 (by decide +kernel) (by decide +kernel)
theorem wk_is6 : Cond.instantiable RX6 6 ∈ tbG := tb_at 94 (by decide +kernel) (by decide +kernel)
theorem wk_im6 : Cond.instanceMethod yX6_init ∈ tbG := tb_at 96 (by decide +kernel) (by decide +kernel)
theorem wk_cl10_41 : Cond.classLink RX10 41 RX6 ∈ tbG := tb_at 93 (by decide +kernel) (by decide +kernel)
theorem wk_ml10_43 : Cond.methodLink RX10 43 yX6_init ∈ tbG := tb_at 95 (by decide +kernel) (by decide +kernel)
theorem wk_f10_44 : Cond.fieldLink RX10 44 RX10 (TX10 5).2.1 (TX10 5).2.2.1 ∈ tbG := tb_at 260 (by decide +kernel) (by decide +kernel)
theorem wk_cd1 : Cond.code yX1_init cX1_init 2 none ∈ tbG := tb_at 141 (by decide +kernel) (by decide +kernel)
theorem wk_in1 : Cond.initialized RX1 ∈ tbG := tb_at 7 (by decide +kernel) (by decide +kernel)
theorem wk_is1 : Cond.instantiable RX1 4 ∈ tbG := tb_at 138 (by decide +kernel) (by decide +kernel)
theorem wk_im1 : Cond.instanceMethod yX1_init ∈ tbG := tb_at 140 (by decide +kernel) (by decide +kernel)
theorem wk_cl10_48 : Cond.classLink RX10 48 RX1 ∈ tbG := tb_at 137 (by decide +kernel) (by decide +kernel)
theorem wk_ml10_50 : Cond.methodLink RX10 50 yX1_init ∈ tbG := tb_at 139 (by decide +kernel) (by decide +kernel)
theorem wk_f10_51 : Cond.fieldLink RX10 51 RX10 (TX10 6).2.1 (TX10 6).2.2.1 ∈ tbG := tb_at 261 (by decide +kernel) (by decide +kernel)
theorem wk_cd9 : Cond.code yX9_init cX9_init 2 none ∈ tbG := tb_at 162 (by decide +kernel) (by decide +kernel)
theorem wk_in9 : Cond.initialized RX9 ∈ tbG := tb_at 8 (by decide +kernel) (by decide +kernel)
theorem wk_is9 : Cond.instantiable RX9 7 ∈ tbG := tb_at 159 (by decide +kernel) (by decide +kernel)
theorem wk_im9 : Cond.instanceMethod yX9_init ∈ tbG := tb_at 161 (by decide +kernel) (by decide +kernel)
theorem wk_cl10_55 : Cond.classLink RX10 55 RX9 ∈ tbG := tb_at 158 (by decide +kernel) (by decide +kernel)
theorem wk_ml10_57 : Cond.methodLink RX10 57 yX9_init ∈ tbG := tb_at 160 (by decide +kernel) (by decide +kernel)
theorem wk_f10_58 : Cond.fieldLink RX10 58 RX10 (TX10 7).2.1 (TX10 7).2.2.1 ∈ tbG := tb_at 262 (by decide +kernel) (by decide +kernel)
theorem wk_cd4 : Cond.code yX4_init cX4_init 1 none ∈ tbG := tb_at 194 (by decide +kernel) (by decide +kernel)
theorem wk_in4 : Cond.initialized RX4 ∈ tbG := tb_at 9 (by decide +kernel) (by decide +kernel)
theorem wk_is4 : Cond.instantiable RX4 5 ∈ tbG := tb_at 191 (by decide +kernel) (by decide +kernel)
theorem wk_im4 : Cond.instanceMethod yX4_init ∈ tbG := tb_at 193 (by decide +kernel) (by decide +kernel)
theorem wk_cl10_62 : Cond.classLink RX10 62 RX4 ∈ tbG := tb_at 190 (by decide +kernel) (by decide +kernel)
theorem wk_f10_65 : Cond.fieldLink RX10 65 RX10 (TX10 8).2.1 (TX10 8).2.2.1 ∈ tbG := tb_at 263 (by decide +kernel) (by decide +kernel)
theorem wk_cl10_69 : Cond.classLink RX10 69 RX0 ∈ tbG := tb_at 212 (by decide +kernel) (by decide +kernel)
theorem wk_f10_72 : Cond.fieldLink RX10 72 RX10 (TX10 9).2.1 (TX10 9).2.2.1 ∈ tbG := tb_at 264 (by decide +kernel) (by decide +kernel)
theorem wk_f10_76 : Cond.fieldLink RX10 76 RX10 (TX10 10).2.1 (TX10 10).2.2.1 ∈ tbG := tb_at 265 (by decide +kernel) (by decide +kernel)
theorem wk_cd7 : Cond.code yX7_init cX7_init 1 none ∈ tbG := tb_at 218 (by decide +kernel) (by decide +kernel)
theorem wk_in7 : Cond.initialized RX7 ∈ tbG := tb_at 10 (by decide +kernel) (by decide +kernel)
theorem wk_is7 : Cond.instantiable RX7 4 ∈ tbG := tb_at 215 (by decide +kernel) (by decide +kernel)
theorem wk_im7 : Cond.instanceMethod yX7_init ∈ tbG := tb_at 217 (by decide +kernel) (by decide +kernel)
theorem wk_cl10_79 : Cond.classLink RX10 79 RX7 ∈ tbG := tb_at 214 (by decide +kernel) (by decide +kernel)
theorem wk_ml10_81 : Cond.methodLink RX10 81 yX7_init ∈ tbG := tb_at 216 (by decide +kernel) (by decide +kernel)
theorem wk_f10_82 : Cond.fieldLink RX10 82 RX10 (TX10 11).2.1 (TX10 11).2.2.1 ∈ tbG := tb_at 266 (by decide +kernel) (by decide +kernel)
theorem wk_cd8 : Cond.code yX8_init cX8_init 2 none ∈ tbG := tb_at 240 (by decide +kernel) (by decide +kernel)
theorem wk_in8 : Cond.initialized RX8 ∈ tbG := tb_at 12 (by decide +kernel) (by decide +kernel)
theorem wk_is8 : Cond.instantiable RX8 3 ∈ tbG := tb_at 237 (by decide +kernel) (by decide +kernel)
theorem wk_im8 : Cond.instanceMethod yX8_init ∈ tbG := tb_at 239 (by decide +kernel) (by decide +kernel)
theorem wk_ml10_86 : Cond.methodLink RX10 86 yX8_init ∈ tbG := tb_at 238 (by decide +kernel) (by decide +kernel)
set_option maxHeartbeats 8000000 in
set_option maxRecDepth 100000 in
theorem n_X10 (E : EV) : Cn E MX10_init E.2.2.2 [] 10 [.null, .null, .null, .null, .null, .null, .null, .null, .null, .null, .null, .null] 122 3736 (mk E (List.range 123)) := by
  refine Met.ofW (cc := cX10_init) (maxL := 2) (ret := none) (by decide) rfl ?_
  intro p e s m args below meth c s₁ B hml hv
  obtain ⟨rfl, hsz, hP, hK, hN⟩ := hv
  have hx := B.exec
  have hb := B.bytes
  have hr := B.returns
  have hts0 := atoms_spec (ws := mws MX10_init) B.pre
  have hts : ∀ w ∈ tbG, w.before _ s = true := fun w hw => hts0 w (List.mem_cons_of_mem _ hw)
  have hown : s.vm.findClass RX10 = some m.cls := findClass_of_methodNamed B.named
  have hin : meth.name = "<init>" := (name_of_methodNamed B.named B.method).1
  have hA : ∀ q : Nat, s.heap.size ≤ q → E.2.2.2 ≤ q := fun q h => by omega
  have hD : va_D (fun q => E.2.2.2 ≤ q) ([(E.2.2.2, .inr (10, [.null, .null, .null, .null, .null, .null, .null, .null, .null, .null, .null, .null]))] : va_W) := y_span (n := 1) rfl
  have hS : va_S (fun q => E.2.2.2 ≤ q) s.heap s.heap [] := va_S.rf
  have hl := lv_entry ([.ref (E.2.2.2)]) (n := 2) (Nat.le_of_ble_eq_true rfl)
  rw [lg_entry_eq]
  generalize (lg_sl ([.ref (E.2.2.2)]) ++ List.replicate (2 - (lg_sl ([.ref (E.2.2.2)])).length) Slot.unset).toArray = ls at hl ⊢
  have hl : lv_has ls 2 [(0, .ref (E.2.2.2))] := hl
  refine lv_aload_n hx hb (dk zX10_init 0 rfl) rfl (lv_at hl 0 rfl) ?_
  refine W.objInit hx hb hown (hts _ wk_obj10) (hts _ wk_oi) (hts _ wk_oc) rfl (by rw [hml]; exact hl.1) rfl (dk zX10_init 1 rfl) (Nat.le_of_ble_eq_true rfl) (Nat.le_of_ble_eq_true rfl) ?_
  refine W.eq (g2 := F0 m 4 ls []) rfl ?_
  refine lv_aload_n hx hb (dk zX10_init 2 rfl) rfl (lv_at hl 0 rfl) ?_
  refine y_new (own := RX10) (C := RX3) (T := TX3) (N := 6) (ci := 3) (index := 9) (fs := [.null, .int 0, .int 0, .int 0, .int 0, .int 0]) hx hb hts iG3 tyX3 tyX3_ok hown (hts _ wk_cl10_9) (hts _ wk_is3) (hts _ wk_in3) hK hP hD hS hA rfl (fun j hj => by
    rcases (show j = 0 ∨ j = 1 ∨ j = 2 ∨ j = 3 ∨ j = 4 ∨ j = 5 by omega) with rfl | rfl | rfl | rfl | rfl | rfl <;> rfl) (Nat.le_of_ble_eq_true rfl) (Nat.le_of_ble_eq_true rfl) hsz (dk zX10_init 3 rfl) (fun H1 z1 hP1 hD1 hS1 o1 => ?_)
  replace z1 : H1.size = E.2.2.2 + 2 := z1
  clear hP hD hS o1
  refine lv_dup hx hb (dk zX10_init 4 rfl) rfl ?_
  refine y_initN (as := []) (rest := [.ref (E.2.2.2 + 1), .ref (E.2.2.2)]) hx hb hml hown hts hN hK (k_3_1 E) (List.mem_of_getElem? (i := 0) rfl) wk_cd3 wk_in3 wk_im3 rfl ⟨by decide, by decide, by show _ = some 0; decide +kernel⟩ ⟨Nat.le_of_ble_eq_true rfl, Nat.le_of_ble_eq_true rfl⟩ hl.1 (Nat.le_of_ble_eq_true rfl) (dk zX10_init 5 rfl) ⟨Nat.le_of_ble_eq_true rfl, Nat.le_of_ble_eq_true rfl⟩ hP1 hD1 hS1 (fun q h => by omega) z1 rfl (fun H2 l2 z2 hP2 hD2 hS2 => ?_)
  replace hP2 : va_P E.2.1 classes ((E.2.2.2, .inr (10, [.null, .null, .null, .null, .null, .null, .null, .null, .null, .null, .null, .null])) :: mk E ([1, 2])) H2 := hP2
  replace hD2 : va_D (fun q => E.2.2.2 ≤ q) (((E.2.2.2, .inr (10, [.null, .null, .null, .null, .null, .null, .null, .null, .null, .null, .null, .null])) :: mk E ([1, 2])) : va_W) := hD2
  replace z2 : H2.size = E.2.2.2 + 3 := z2
  clear hP1 hD1 hS1 z1
  refine va_putF hx hb (Ts := tbG) hts iG10 tyX10 tyX10_ok nmX10 hown hK hP2 hD2 (y_rf hS2) 0 (fs := [.null, .null, .null, .null, .null, .null, .null, .null, .null, .null, .null, .null]) rfl rfl 0 (by decide) (hts _ wk_f10_12) (fun x h => h) rfl hin rfl (ty := .object "StampsCancel$Land") rfl rfl rfl (Nat.lt_of_lt_of_le (Nat.lt_succ_self _) (Nat.le_of_ble_eq_true rfl)) (dk zX10_init 6 rfl) (fun H3 l3 hP3 hD3 hT3 => ?_)
  refine y_size (fun hle3 => ?_)
  have z3 := y_eqz hsz z2 hT3 hle3 rfl
  have hS3 := y_tr hS2 hT3
  replace hP3 : va_P E.2.1 classes ((E.2.2.2, .inr (10, [.ref (E.2.2.2 + 1), .null, .null, .null, .null, .null, .null, .null, .null, .null, .null, .null])) :: mk E ([1, 2])) H3 := hP3
  replace hD3 : va_D (fun q => E.2.2.2 ≤ q) (((E.2.2.2, .inr (10, [.ref (E.2.2.2 + 1), .null, .null, .null, .null, .null, .null, .null, .null, .null, .null, .null])) :: mk E ([1, 2])) : va_W) := hD3
  replace z3 : H3.size = E.2.2.2 + 3 := z3
  clear hP2 hD2 hS2 z2 hT3 hle3
  refine lv_aload_n hx hb (dk zX10_init 7 rfl) rfl (lv_at hl 0 rfl) ?_
  refine lv_iconst hx hb (dk zX10_init 8 rfl) (v := 4) rfl ?_
  refine y_anew (own := RX10) (index := 16) (C := "StampsCancel$Text") (qk := 3) (N := 4) hx hb hown (hts _ wk_cl10_16) (nn_ot hN) hK rfl hP3 hD3 hS3 hA (by decide) (by decide) (Nat.le_of_ble_eq_true rfl) (Nat.le_of_ble_eq_true rfl) (Nat.le_of_ble_eq_true rfl) z3 (dk zX10_init 9 rfl) (fun H4 z4 hP4 hD4 hS4 => ?_)
  replace hP4 := hP4.sub (ws' := ((E.2.2.2, .inr (10, [.ref (E.2.2.2 + 1), .null, .null, .null, .null, .null, .null, .null, .null, .null, .null, .null])) :: (E.2.2.2 + 3, .inl (E.2.2.1 23, 4, .inr (.inr (.inr (.inr (fun _ => none)))))) :: mk E ([1, 2]))) [0, 3, 1, 2] rfl
  replace hD4 := hD4.sub (ws' := ((E.2.2.2, .inr (10, [.ref (E.2.2.2 + 1), .null, .null, .null, .null, .null, .null, .null, .null, .null, .null, .null])) :: (E.2.2.2 + 3, .inl (E.2.2.1 23, 4, .inr (.inr (.inr (.inr (fun _ => none)))))) :: mk E ([1, 2]))) [0, 3, 1, 2] (by decide) rfl
  replace hP4 : va_P E.2.1 classes ((E.2.2.2, .inr (10, [.ref (E.2.2.2 + 1), .null, .null, .null, .null, .null, .null, .null, .null, .null, .null, .null])) :: (E.2.2.2 + 3, .inl (E.2.2.1 23, 4, .inr (.inr (.inr (.inr (fun _ => none)))))) :: mk E ([1, 2])) H4 := hP4
  replace hD4 : va_D (fun q => E.2.2.2 ≤ q) (((E.2.2.2, .inr (10, [.ref (E.2.2.2 + 1), .null, .null, .null, .null, .null, .null, .null, .null, .null, .null, .null])) :: (E.2.2.2 + 3, .inl (E.2.2.1 23, 4, .inr (.inr (.inr (.inr (fun _ => none)))))) :: mk E ([1, 2])) : va_W) := hD4
  replace z4 : H4.size = E.2.2.2 + 4 := z4
  clear hP3 hD3 hS3 z3
  refine va_putF hx hb (Ts := tbG) hts iG10 tyX10 tyX10_ok nmX10 hown hK hP4 hD4 (y_rf hS4) 0 (fs := [.ref (E.2.2.2 + 1), .null, .null, .null, .null, .null, .null, .null, .null, .null, .null, .null]) rfl rfl 1 (by decide) (hts _ wk_f10_18) (fun x h => h) rfl hin rfl (ty := .array (.object "StampsCancel$Text")) rfl rfl rfl (Nat.lt_of_lt_of_le (Nat.lt_succ_self _) (Nat.le_of_ble_eq_true rfl)) (dk zX10_init 10 rfl) (fun H5 l5 hP5 hD5 hT5 => ?_)
  refine y_size (fun hle5 => ?_)
  have z5 := y_eqz hsz z4 hT5 hle5 rfl
  have hS5 := y_tr hS4 hT5
  replace hP5 : va_P E.2.1 classes ((E.2.2.2, .inr (10, [.ref (E.2.2.2 + 1), .ref (E.2.2.2 + 3), .null, .null, .null, .null, .null, .null, .null, .null, .null, .null])) :: (E.2.2.2 + 3, .inl (E.2.2.1 23, 4, .inr (.inr (.inr (.inr (fun _ => none)))))) :: mk E ([1, 2])) H5 := hP5
  replace hD5 : va_D (fun q => E.2.2.2 ≤ q) (((E.2.2.2, .inr (10, [.ref (E.2.2.2 + 1), .ref (E.2.2.2 + 3), .null, .null, .null, .null, .null, .null, .null, .null, .null, .null])) :: (E.2.2.2 + 3, .inl (E.2.2.1 23, 4, .inr (.inr (.inr (.inr (fun _ => none)))))) :: mk E ([1, 2])) : va_W) := hD5
  replace z5 : H5.size = E.2.2.2 + 4 := z5
  clear hP4 hD4 hS4 z4 hT5 hle5
  refine lv_aload_n hx hb (dk zX10_init 11 rfl) rfl (lv_at hl 0 rfl) ?_
  refine y_new (own := RX10) (C := RX5) (T := TX5) (N := 2) (ci := 5) (index := 22) (fs := [.null, .int 0]) hx hb hts iG5 tyX5 tyX5_ok hown (hts _ wk_cl10_22) (hts _ wk_is5) (hts _ wk_in5) hK hP5 hD5 hS5 hA rfl (fun j hj => by
    rcases (show j = 0 ∨ j = 1 by omega) with rfl | rfl <;> rfl) (Nat.le_of_ble_eq_true rfl) (Nat.le_of_ble_eq_true rfl) z5 (dk zX10_init 12 rfl) (fun H6 z6 hP6 hD6 hS6 o6 => ?_)
  replace z6 : H6.size = E.2.2.2 + 5 := z6
  clear hP5 hD5 hS5 z5 o6
  refine lv_dup hx hb (dk zX10_init 13 rfl) rfl ?_
  refine y_initN (as := []) (rest := [.ref (E.2.2.2 + 4), .ref (E.2.2.2)]) hx hb hml hown hts hN hK (k_5_4 E) (List.mem_of_getElem? (i := 1) rfl) wk_cd5 wk_in5 wk_im5 rfl ⟨by decide, by decide, by show _ = some 0; decide +kernel⟩ ⟨Nat.le_of_ble_eq_true rfl, Nat.le_of_ble_eq_true rfl⟩ hl.1 (Nat.le_of_ble_eq_true rfl) (dk zX10_init 14 rfl) ⟨Nat.le_of_ble_eq_true rfl, Nat.le_of_ble_eq_true rfl⟩ hP6 hD6 hS6 (fun q h => by omega) z6 rfl (fun H7 l7 z7 hP7 hD7 hS7 => ?_)
  rw [mk_app] at hP7 hD7
  replace hP7 : va_P E.2.1 classes ((E.2.2.2, .inr (10, [.ref (E.2.2.2 + 1), .ref (E.2.2.2 + 3), .null, .null, .null, .null, .null, .null, .null, .null, .null, .null])) :: (E.2.2.2 + 3, .inl (E.2.2.1 23, 4, .inr (.inr (.inr (.inr (fun _ => none)))))) :: mk E ([1, 2] ++ [4, 5])) H7 := hP7
  replace hD7 : va_D (fun q => E.2.2.2 ≤ q) (((E.2.2.2, .inr (10, [.ref (E.2.2.2 + 1), .ref (E.2.2.2 + 3), .null, .null, .null, .null, .null, .null, .null, .null, .null, .null])) :: (E.2.2.2 + 3, .inl (E.2.2.1 23, 4, .inr (.inr (.inr (.inr (fun _ => none)))))) :: mk E ([1, 2] ++ [4, 5])) : va_W) := hD7
  replace z7 : H7.size = E.2.2.2 + 6 := z7
  clear hP6 hD6 hS6 z6
  refine va_putF hx hb (Ts := tbG) hts iG10 tyX10 tyX10_ok nmX10 hown hK hP7 hD7 (y_rf hS7) 0 (fs := [.ref (E.2.2.2 + 1), .ref (E.2.2.2 + 3), .null, .null, .null, .null, .null, .null, .null, .null, .null, .null]) rfl rfl 2 (by decide) (hts _ wk_f10_25) (fun x h => h) rfl hin rfl (ty := .object "StampsCancel$Paper") rfl rfl rfl (Nat.lt_of_lt_of_le (Nat.lt_succ_self _) (Nat.le_of_ble_eq_true rfl)) (dk zX10_init 15 rfl) (fun H8 l8 hP8 hD8 hT8 => ?_)
  refine y_size (fun hle8 => ?_)
  have z8 := y_eqz hsz z7 hT8 hle8 rfl
  have hS8 := y_tr hS7 hT8
  replace hP8 : va_P E.2.1 classes ((E.2.2.2, .inr (10, [.ref (E.2.2.2 + 1), .ref (E.2.2.2 + 3), .ref (E.2.2.2 + 4), .null, .null, .null, .null, .null, .null, .null, .null, .null])) :: (E.2.2.2 + 3, .inl (E.2.2.1 23, 4, .inr (.inr (.inr (.inr (fun _ => none)))))) :: mk E ([1, 2] ++ [4, 5])) H8 := hP8
  replace hD8 : va_D (fun q => E.2.2.2 ≤ q) (((E.2.2.2, .inr (10, [.ref (E.2.2.2 + 1), .ref (E.2.2.2 + 3), .ref (E.2.2.2 + 4), .null, .null, .null, .null, .null, .null, .null, .null, .null])) :: (E.2.2.2 + 3, .inl (E.2.2.1 23, 4, .inr (.inr (.inr (.inr (fun _ => none)))))) :: mk E ([1, 2] ++ [4, 5])) : va_W) := hD8
  replace z8 : H8.size = E.2.2.2 + 6 := z8
  clear hP7 hD7 hS7 z7 hT8 hle8
  refine lv_aload_n hx hb (dk zX10_init 16 rfl) rfl (lv_at hl 0 rfl) ?_
  refine y_new (own := RX10) (C := RX5) (T := TX5) (N := 2) (ci := 5) (index := 22) (fs := [.null, .int 0]) hx hb hts iG5 tyX5 tyX5_ok hown (hts _ wk_cl10_22) (hts _ wk_is5) (hts _ wk_in5) hK hP8 hD8 hS8 hA rfl (fun j hj => by
    rcases (show j = 0 ∨ j = 1 by omega) with rfl | rfl <;> rfl) (Nat.le_of_ble_eq_true rfl) (Nat.le_of_ble_eq_true rfl) z8 (dk zX10_init 17 rfl) (fun H9 z9 hP9 hD9 hS9 o9 => ?_)
  replace z9 : H9.size = E.2.2.2 + 7 := z9
  clear hP8 hD8 hS8 z8 o9
  refine lv_dup hx hb (dk zX10_init 18 rfl) rfl ?_
  refine y_initN (as := []) (rest := [.ref (E.2.2.2 + 6), .ref (E.2.2.2)]) hx hb hml hown hts hN hK (k_5_6 E) (List.mem_of_getElem? (i := 1) rfl) wk_cd5 wk_in5 wk_im5 rfl ⟨by decide, by decide, by show _ = some 0; decide +kernel⟩ ⟨Nat.le_of_ble_eq_true rfl, Nat.le_of_ble_eq_true rfl⟩ hl.1 (Nat.le_of_ble_eq_true rfl) (dk zX10_init 19 rfl) ⟨Nat.le_of_ble_eq_true rfl, Nat.le_of_ble_eq_true rfl⟩ hP9 hD9 hS9 (fun q h => by omega) z9 rfl (fun H10 l10 z10 hP10 hD10 hS10 => ?_)
  rw [mk_app] at hP10 hD10
  replace hP10 : va_P E.2.1 classes ((E.2.2.2, .inr (10, [.ref (E.2.2.2 + 1), .ref (E.2.2.2 + 3), .ref (E.2.2.2 + 4), .null, .null, .null, .null, .null, .null, .null, .null, .null])) :: (E.2.2.2 + 3, .inl (E.2.2.1 23, 4, .inr (.inr (.inr (.inr (fun _ => none)))))) :: mk E ([1, 2] ++ [4, 5] ++ [6, 7])) H10 := hP10
  replace hD10 : va_D (fun q => E.2.2.2 ≤ q) (((E.2.2.2, .inr (10, [.ref (E.2.2.2 + 1), .ref (E.2.2.2 + 3), .ref (E.2.2.2 + 4), .null, .null, .null, .null, .null, .null, .null, .null, .null])) :: (E.2.2.2 + 3, .inl (E.2.2.1 23, 4, .inr (.inr (.inr (.inr (fun _ => none)))))) :: mk E ([1, 2] ++ [4, 5] ++ [6, 7])) : va_W) := hD10
  replace z10 : H10.size = E.2.2.2 + 8 := z10
  clear hP9 hD9 hS9 z9
  refine va_putF hx hb (Ts := tbG) hts iG10 tyX10 tyX10_ok nmX10 hown hK hP10 hD10 (y_rf hS10) 0 (fs := [.ref (E.2.2.2 + 1), .ref (E.2.2.2 + 3), .ref (E.2.2.2 + 4), .null, .null, .null, .null, .null, .null, .null, .null, .null]) rfl rfl 3 (by decide) (hts _ wk_f10_29) (fun x h => h) rfl hin rfl (ty := .object "StampsCancel$Paper") rfl rfl rfl (Nat.lt_of_lt_of_le (Nat.lt_succ_self _) (Nat.le_of_ble_eq_true rfl)) (dk zX10_init 20 rfl) (fun H11 l11 hP11 hD11 hT11 => ?_)
  refine y_size (fun hle11 => ?_)
  have z11 := y_eqz hsz z10 hT11 hle11 rfl
  have hS11 := y_tr hS10 hT11
  replace hP11 : va_P E.2.1 classes ((E.2.2.2, .inr (10, [.ref (E.2.2.2 + 1), .ref (E.2.2.2 + 3), .ref (E.2.2.2 + 4), .ref (E.2.2.2 + 6), .null, .null, .null, .null, .null, .null, .null, .null])) :: (E.2.2.2 + 3, .inl (E.2.2.1 23, 4, .inr (.inr (.inr (.inr (fun _ => none)))))) :: mk E ([1, 2] ++ [4, 5] ++ [6, 7])) H11 := hP11
  replace hD11 : va_D (fun q => E.2.2.2 ≤ q) (((E.2.2.2, .inr (10, [.ref (E.2.2.2 + 1), .ref (E.2.2.2 + 3), .ref (E.2.2.2 + 4), .ref (E.2.2.2 + 6), .null, .null, .null, .null, .null, .null, .null, .null])) :: (E.2.2.2 + 3, .inl (E.2.2.1 23, 4, .inr (.inr (.inr (.inr (fun _ => none)))))) :: mk E ([1, 2] ++ [4, 5] ++ [6, 7])) : va_W) := hD11
  replace z11 : H11.size = E.2.2.2 + 8 := z11
  clear hP10 hD10 hS10 z10 hT11 hle11
  refine lv_aload_n hx hb (dk zX10_init 21 rfl) rfl (lv_at hl 0 rfl) ?_
  refine y_new (own := RX10) (C := RX2) (T := TX2) (N := 6) (ci := 2) (index := 32) (fs := [.null, .null, .int 0, .int 0, .int 0, .int 0]) hx hb hts iG2 tyX2 tyX2_ok hown (hts _ wk_cl10_32) (hts _ wk_is2) (hts _ wk_in2) hK hP11 hD11 hS11 hA rfl (fun j hj => by
    rcases (show j = 0 ∨ j = 1 ∨ j = 2 ∨ j = 3 ∨ j = 4 ∨ j = 5 by omega) with rfl | rfl | rfl | rfl | rfl | rfl <;> rfl) (Nat.le_of_ble_eq_true rfl) (Nat.le_of_ble_eq_true rfl) z11 (dk zX10_init 22 rfl) (fun H12 z12 hP12 hD12 hS12 o12 => ?_)
  replace z12 : H12.size = E.2.2.2 + 9 := z12
  clear hP11 hD11 hS11 z11 o12
  refine lv_dup hx hb (dk zX10_init 23 rfl) rfl ?_
  refine lv_aload_n hx hb (dk zX10_init 24 rfl) rfl (lv_at hl 0 rfl) ?_
  refine va_get hx hb (Ts := tbG) hts iG10 hown hK hP12 0 (fs := [.ref (E.2.2.2 + 1), .ref (E.2.2.2 + 3), .ref (E.2.2.2 + 4), .ref (E.2.2.2 + 6), .null, .null, .null, .null, .null, .null, .null, .null]) rfl rfl 0 (by decide) (hts _ wk_f10_12) (fun x h => h) rfl (dk zX10_init 25 rfl) ?_
  refine y_initL (as := [.ref (E.2.2.2 + 1)]) (rest := [.ref (E.2.2.2 + 8), .ref (E.2.2.2)]) hx hb hml hown hts hN hK (k_2_8 E) wk_ml10_34 wk_cd2 wk_in2 wk_im2 rfl ⟨by decide, by decide, by show _ = some 1; decide +kernel⟩ ⟨Nat.le_of_ble_eq_true rfl, Nat.le_of_ble_eq_true rfl⟩ hl.1 (Nat.le_of_ble_eq_true rfl) (dk zX10_init 26 rfl) ⟨Nat.le_of_ble_eq_true rfl, Nat.le_of_ble_eq_true rfl⟩ hP12 hD12 hS12 (fun q h => by omega) z12 rfl (fun H13 l13 z13 hP13 hD13 hS13 => ?_)
  rw [mk_app] at hP13 hD13
  replace hP13 : va_P E.2.1 classes ((E.2.2.2, .inr (10, [.ref (E.2.2.2 + 1), .ref (E.2.2.2 + 3), .ref (E.2.2.2 + 4), .ref (E.2.2.2 + 6), .null, .null, .null, .null, .null, .null, .null, .null])) :: (E.2.2.2 + 3, .inl (E.2.2.1 23, 4, .inr (.inr (.inr (.inr (fun _ => none)))))) :: mk E ([1, 2] ++ [4, 5] ++ [6, 7] ++ [8, 9, 10])) H13 := hP13
  replace hD13 : va_D (fun q => E.2.2.2 ≤ q) (((E.2.2.2, .inr (10, [.ref (E.2.2.2 + 1), .ref (E.2.2.2 + 3), .ref (E.2.2.2 + 4), .ref (E.2.2.2 + 6), .null, .null, .null, .null, .null, .null, .null, .null])) :: (E.2.2.2 + 3, .inl (E.2.2.1 23, 4, .inr (.inr (.inr (.inr (fun _ => none)))))) :: mk E ([1, 2] ++ [4, 5] ++ [6, 7] ++ [8, 9, 10])) : va_W) := hD13
  replace z13 : H13.size = E.2.2.2 + 11 := z13
  clear hP12 hD12 hS12 z12
  refine va_putF hx hb (Ts := tbG) hts iG10 tyX10 tyX10_ok nmX10 hown hK hP13 hD13 (y_rf hS13) 0 (fs := [.ref (E.2.2.2 + 1), .ref (E.2.2.2 + 3), .ref (E.2.2.2 + 4), .ref (E.2.2.2 + 6), .null, .null, .null, .null, .null, .null, .null, .null]) rfl rfl 4 (by decide) (hts _ wk_f10_37) (fun x h => h) rfl hin rfl (ty := .object "StampsCancel$Judge") rfl rfl rfl (Nat.lt_of_lt_of_le (Nat.lt_succ_self _) (Nat.le_of_ble_eq_true rfl)) (dk zX10_init 27 rfl) (fun H14 l14 hP14 hD14 hT14 => ?_)
  refine y_size (fun hle14 => ?_)
  have z14 := y_eqz hsz z13 hT14 hle14 rfl
  have hS14 := y_tr hS13 hT14
  replace hP14 : va_P E.2.1 classes ((E.2.2.2, .inr (10, [.ref (E.2.2.2 + 1), .ref (E.2.2.2 + 3), .ref (E.2.2.2 + 4), .ref (E.2.2.2 + 6), .ref (E.2.2.2 + 8), .null, .null, .null, .null, .null, .null, .null])) :: (E.2.2.2 + 3, .inl (E.2.2.1 23, 4, .inr (.inr (.inr (.inr (fun _ => none)))))) :: mk E ([1, 2] ++ [4, 5] ++ [6, 7] ++ [8, 9, 10])) H14 := hP14
  replace hD14 : va_D (fun q => E.2.2.2 ≤ q) (((E.2.2.2, .inr (10, [.ref (E.2.2.2 + 1), .ref (E.2.2.2 + 3), .ref (E.2.2.2 + 4), .ref (E.2.2.2 + 6), .ref (E.2.2.2 + 8), .null, .null, .null, .null, .null, .null, .null])) :: (E.2.2.2 + 3, .inl (E.2.2.1 23, 4, .inr (.inr (.inr (.inr (fun _ => none)))))) :: mk E ([1, 2] ++ [4, 5] ++ [6, 7] ++ [8, 9, 10])) : va_W) := hD14
  replace z14 : H14.size = E.2.2.2 + 11 := z14
  clear hP13 hD13 hS13 z13 hT14 hle14
  refine lv_aload_n hx hb (dk zX10_init 28 rfl) rfl (lv_at hl 0 rfl) ?_
  refine y_new (own := RX10) (C := RX6) (T := TX6) (N := 6) (ci := 6) (index := 41) (fs := [.null, .null, .null, .int 0, .null, .null]) hx hb hts iG6 tyX6 tyX6_ok hown (hts _ wk_cl10_41) (hts _ wk_is6) (hts _ wk_in6) hK hP14 hD14 hS14 hA rfl (fun j hj => by
    rcases (show j = 0 ∨ j = 1 ∨ j = 2 ∨ j = 3 ∨ j = 4 ∨ j = 5 by omega) with rfl | rfl | rfl | rfl | rfl | rfl <;> rfl) (Nat.le_of_ble_eq_true rfl) (Nat.le_of_ble_eq_true rfl) z14 (dk zX10_init 29 rfl) (fun H15 z15 hP15 hD15 hS15 o15 => ?_)
  replace z15 : H15.size = E.2.2.2 + 12 := z15
  clear hP14 hD14 hS14 z14 o15
  refine lv_dup hx hb (dk zX10_init 30 rfl) rfl ?_
  refine lv_aload_n hx hb (dk zX10_init 31 rfl) rfl (lv_at hl 0 rfl) ?_
  refine va_get hx hb (Ts := tbG) hts iG10 hown hK hP15 0 (fs := [.ref (E.2.2.2 + 1), .ref (E.2.2.2 + 3), .ref (E.2.2.2 + 4), .ref (E.2.2.2 + 6), .ref (E.2.2.2 + 8), .null, .null, .null, .null, .null, .null, .null]) rfl rfl 0 (by decide) (hts _ wk_f10_12) (fun x h => h) rfl (dk zX10_init 32 rfl) ?_
  refine y_initL (as := [.ref (E.2.2.2 + 1)]) (rest := [.ref (E.2.2.2 + 11), .ref (E.2.2.2)]) hx hb hml hown hts hN hK (k_6_11 E) wk_ml10_43 wk_cd6 wk_in6 wk_im6 rfl ⟨by decide, by decide, by show _ = some 1; decide +kernel⟩ ⟨Nat.le_of_ble_eq_true rfl, Nat.le_of_ble_eq_true rfl⟩ hl.1 (Nat.le_of_ble_eq_true rfl) (dk zX10_init 33 rfl) ⟨Nat.le_of_ble_eq_true rfl, Nat.le_of_ble_eq_true rfl⟩ hP15 hD15 hS15 (fun q h => by omega) z15 rfl (fun H16 l16 z16 hP16 hD16 hS16 => ?_)
  rw [mk_app] at hP16 hD16
  replace hP16 : va_P E.2.1 classes ((E.2.2.2, .inr (10, [.ref (E.2.2.2 + 1), .ref (E.2.2.2 + 3), .ref (E.2.2.2 + 4), .ref (E.2.2.2 + 6), .ref (E.2.2.2 + 8), .null, .null, .null, .null, .null, .null, .null])) :: (E.2.2.2 + 3, .inl (E.2.2.1 23, 4, .inr (.inr (.inr (.inr (fun _ => none)))))) :: mk E ([1, 2] ++ [4, 5] ++ [6, 7] ++ [8, 9, 10] ++ [11, 12, 13, 14, 15, 16, 17, 18, 19, 20, 21, 22, 23, 24, 25, 26])) H16 := hP16
  replace hD16 : va_D (fun q => E.2.2.2 ≤ q) (((E.2.2.2, .inr (10, [.ref (E.2.2.2 + 1), .ref (E.2.2.2 + 3), .ref (E.2.2.2 + 4), .ref (E.2.2.2 + 6), .ref (E.2.2.2 + 8), .null, .null, .null, .null, .null, .null, .null])) :: (E.2.2.2 + 3, .inl (E.2.2.1 23, 4, .inr (.inr (.inr (.inr (fun _ => none)))))) :: mk E ([1, 2] ++ [4, 5] ++ [6, 7] ++ [8, 9, 10] ++ [11, 12, 13, 14, 15, 16, 17, 18, 19, 20, 21, 22, 23, 24, 25, 26])) : va_W) := hD16
  replace z16 : H16.size = E.2.2.2 + 27 := z16
  clear hP15 hD15 hS15 z15
  refine va_putF hx hb (Ts := tbG) hts iG10 tyX10 tyX10_ok nmX10 hown hK hP16 hD16 (y_rf hS16) 0 (fs := [.ref (E.2.2.2 + 1), .ref (E.2.2.2 + 3), .ref (E.2.2.2 + 4), .ref (E.2.2.2 + 6), .ref (E.2.2.2 + 8), .null, .null, .null, .null, .null, .null, .null]) rfl rfl 5 (by decide) (hts _ wk_f10_44) (fun x h => h) rfl hin rfl (ty := .object "StampsCancel$Route") rfl rfl rfl (Nat.lt_of_lt_of_le (Nat.lt_succ_self _) (Nat.le_of_ble_eq_true rfl)) (dk zX10_init 34 rfl) (fun H17 l17 hP17 hD17 hT17 => ?_)
  refine y_size (fun hle17 => ?_)
  have z17 := y_eqz hsz z16 hT17 hle17 rfl
  have hS17 := y_tr hS16 hT17
  replace hP17 : va_P E.2.1 classes ((E.2.2.2, .inr (10, [.ref (E.2.2.2 + 1), .ref (E.2.2.2 + 3), .ref (E.2.2.2 + 4), .ref (E.2.2.2 + 6), .ref (E.2.2.2 + 8), .ref (E.2.2.2 + 11), .null, .null, .null, .null, .null, .null])) :: (E.2.2.2 + 3, .inl (E.2.2.1 23, 4, .inr (.inr (.inr (.inr (fun _ => none)))))) :: mk E ([1, 2] ++ [4, 5] ++ [6, 7] ++ [8, 9, 10] ++ [11, 12, 13, 14, 15, 16, 17, 18, 19, 20, 21, 22, 23, 24, 25, 26])) H17 := hP17
  replace hD17 : va_D (fun q => E.2.2.2 ≤ q) (((E.2.2.2, .inr (10, [.ref (E.2.2.2 + 1), .ref (E.2.2.2 + 3), .ref (E.2.2.2 + 4), .ref (E.2.2.2 + 6), .ref (E.2.2.2 + 8), .ref (E.2.2.2 + 11), .null, .null, .null, .null, .null, .null])) :: (E.2.2.2 + 3, .inl (E.2.2.1 23, 4, .inr (.inr (.inr (.inr (fun _ => none)))))) :: mk E ([1, 2] ++ [4, 5] ++ [6, 7] ++ [8, 9, 10] ++ [11, 12, 13, 14, 15, 16, 17, 18, 19, 20, 21, 22, 23, 24, 25, 26])) : va_W) := hD17
  replace z17 : H17.size = E.2.2.2 + 27 := z17
  clear hP16 hD16 hS16 z16 hT17 hle17
  refine lv_aload_n hx hb (dk zX10_init 35 rfl) rfl (lv_at hl 0 rfl) ?_
  refine y_new (own := RX10) (C := RX1) (T := TX1) (N := 4) (ci := 1) (index := 48) (fs := [.null, .null, .null, .null]) hx hb hts iG1 tyX1 tyX1_ok hown (hts _ wk_cl10_48) (hts _ wk_is1) (hts _ wk_in1) hK hP17 hD17 hS17 hA rfl (fun j hj => by
    rcases (show j = 0 ∨ j = 1 ∨ j = 2 ∨ j = 3 by omega) with rfl | rfl | rfl | rfl <;> rfl) (Nat.le_of_ble_eq_true rfl) (Nat.le_of_ble_eq_true rfl) z17 (dk zX10_init 36 rfl) (fun H18 z18 hP18 hD18 hS18 o18 => ?_)
  replace z18 : H18.size = E.2.2.2 + 28 := z18
  clear hP17 hD17 hS17 z17 o18
  refine lv_dup hx hb (dk zX10_init 37 rfl) rfl ?_
  refine lv_aload_n hx hb (dk zX10_init 38 rfl) rfl (lv_at hl 0 rfl) ?_
  refine va_get hx hb (Ts := tbG) hts iG10 hown hK hP18 0 (fs := [.ref (E.2.2.2 + 1), .ref (E.2.2.2 + 3), .ref (E.2.2.2 + 4), .ref (E.2.2.2 + 6), .ref (E.2.2.2 + 8), .ref (E.2.2.2 + 11), .null, .null, .null, .null, .null, .null]) rfl rfl 0 (by decide) (hts _ wk_f10_12) (fun x h => h) rfl (dk zX10_init 39 rfl) ?_
  refine y_initL (as := [.ref (E.2.2.2 + 1)]) (rest := [.ref (E.2.2.2 + 27), .ref (E.2.2.2)]) hx hb hml hown hts hN hK (k_1_27 E) wk_ml10_50 wk_cd1 wk_in1 wk_im1 rfl ⟨by decide, by decide, by show _ = some 1; decide +kernel⟩ ⟨Nat.le_of_ble_eq_true rfl, Nat.le_of_ble_eq_true rfl⟩ hl.1 (Nat.le_of_ble_eq_true rfl) (dk zX10_init 40 rfl) ⟨Nat.le_of_ble_eq_true rfl, Nat.le_of_ble_eq_true rfl⟩ hP18 hD18 hS18 (fun q h => by omega) z18 rfl (fun H19 l19 z19 hP19 hD19 hS19 => ?_)
  rw [mk_app] at hP19 hD19
  replace hP19 : va_P E.2.1 classes ((E.2.2.2, .inr (10, [.ref (E.2.2.2 + 1), .ref (E.2.2.2 + 3), .ref (E.2.2.2 + 4), .ref (E.2.2.2 + 6), .ref (E.2.2.2 + 8), .ref (E.2.2.2 + 11), .null, .null, .null, .null, .null, .null])) :: (E.2.2.2 + 3, .inl (E.2.2.1 23, 4, .inr (.inr (.inr (.inr (fun _ => none)))))) :: mk E ([1, 2] ++ [4, 5] ++ [6, 7] ++ [8, 9, 10] ++ [11, 12, 13, 14, 15, 16, 17, 18, 19, 20, 21, 22, 23, 24, 25, 26] ++ [27, 28, 29, 30, 31, 32, 33, 34, 35, 36, 37, 38, 39, 40, 41])) H19 := hP19
  replace hD19 : va_D (fun q => E.2.2.2 ≤ q) (((E.2.2.2, .inr (10, [.ref (E.2.2.2 + 1), .ref (E.2.2.2 + 3), .ref (E.2.2.2 + 4), .ref (E.2.2.2 + 6), .ref (E.2.2.2 + 8), .ref (E.2.2.2 + 11), .null, .null, .null, .null, .null, .null])) :: (E.2.2.2 + 3, .inl (E.2.2.1 23, 4, .inr (.inr (.inr (.inr (fun _ => none)))))) :: mk E ([1, 2] ++ [4, 5] ++ [6, 7] ++ [8, 9, 10] ++ [11, 12, 13, 14, 15, 16, 17, 18, 19, 20, 21, 22, 23, 24, 25, 26] ++ [27, 28, 29, 30, 31, 32, 33, 34, 35, 36, 37, 38, 39, 40, 41])) : va_W) := hD19
  replace z19 : H19.size = E.2.2.2 + 42 := z19
  clear hP18 hD18 hS18 z18
  refine va_putF hx hb (Ts := tbG) hts iG10 tyX10 tyX10_ok nmX10 hown hK hP19 hD19 (y_rf hS19) 0 (fs := [.ref (E.2.2.2 + 1), .ref (E.2.2.2 + 3), .ref (E.2.2.2 + 4), .ref (E.2.2.2 + 6), .ref (E.2.2.2 + 8), .ref (E.2.2.2 + 11), .null, .null, .null, .null, .null, .null]) rfl rfl 6 (by decide) (hts _ wk_f10_51) (fun x h => h) rfl hin rfl (ty := .object "StampsCancel$Errands") rfl rfl rfl (Nat.lt_of_lt_of_le (Nat.lt_succ_self _) (Nat.le_of_ble_eq_true rfl)) (dk zX10_init 41 rfl) (fun H20 l20 hP20 hD20 hT20 => ?_)
  refine y_size (fun hle20 => ?_)
  have z20 := y_eqz hsz z19 hT20 hle20 rfl
  have hS20 := y_tr hS19 hT20
  replace hP20 : va_P E.2.1 classes ((E.2.2.2, .inr (10, [.ref (E.2.2.2 + 1), .ref (E.2.2.2 + 3), .ref (E.2.2.2 + 4), .ref (E.2.2.2 + 6), .ref (E.2.2.2 + 8), .ref (E.2.2.2 + 11), .ref (E.2.2.2 + 27), .null, .null, .null, .null, .null])) :: (E.2.2.2 + 3, .inl (E.2.2.1 23, 4, .inr (.inr (.inr (.inr (fun _ => none)))))) :: mk E ([1, 2] ++ [4, 5] ++ [6, 7] ++ [8, 9, 10] ++ [11, 12, 13, 14, 15, 16, 17, 18, 19, 20, 21, 22, 23, 24, 25, 26] ++ [27, 28, 29, 30, 31, 32, 33, 34, 35, 36, 37, 38, 39, 40, 41])) H20 := hP20
  replace hD20 : va_D (fun q => E.2.2.2 ≤ q) (((E.2.2.2, .inr (10, [.ref (E.2.2.2 + 1), .ref (E.2.2.2 + 3), .ref (E.2.2.2 + 4), .ref (E.2.2.2 + 6), .ref (E.2.2.2 + 8), .ref (E.2.2.2 + 11), .ref (E.2.2.2 + 27), .null, .null, .null, .null, .null])) :: (E.2.2.2 + 3, .inl (E.2.2.1 23, 4, .inr (.inr (.inr (.inr (fun _ => none)))))) :: mk E ([1, 2] ++ [4, 5] ++ [6, 7] ++ [8, 9, 10] ++ [11, 12, 13, 14, 15, 16, 17, 18, 19, 20, 21, 22, 23, 24, 25, 26] ++ [27, 28, 29, 30, 31, 32, 33, 34, 35, 36, 37, 38, 39, 40, 41])) : va_W) := hD20
  replace z20 : H20.size = E.2.2.2 + 42 := z20
  clear hP19 hD19 hS19 z19 hT20 hle20
  refine lv_aload_n hx hb (dk zX10_init 42 rfl) rfl (lv_at hl 0 rfl) ?_
  refine y_new (own := RX10) (C := RX9) (T := TX9) (N := 7) (ci := 9) (index := 55) (fs := [.null, .null, .null, .null, .null, .null, .null]) hx hb hts iG9 tyX9 tyX9_ok hown (hts _ wk_cl10_55) (hts _ wk_is9) (hts _ wk_in9) hK hP20 hD20 hS20 hA rfl (fun j hj => by
    rcases (show j = 0 ∨ j = 1 ∨ j = 2 ∨ j = 3 ∨ j = 4 ∨ j = 5 ∨ j = 6 by omega) with rfl | rfl | rfl | rfl | rfl | rfl | rfl <;> rfl) (Nat.le_of_ble_eq_true rfl) (Nat.le_of_ble_eq_true rfl) z20 (dk zX10_init 43 rfl) (fun H21 z21 hP21 hD21 hS21 o21 => ?_)
  replace z21 : H21.size = E.2.2.2 + 43 := z21
  clear hP20 hD20 hS20 z20 o21
  refine lv_dup hx hb (dk zX10_init 44 rfl) rfl ?_
  refine lv_aload_n hx hb (dk zX10_init 45 rfl) rfl (lv_at hl 0 rfl) ?_
  refine va_get hx hb (Ts := tbG) hts iG10 hown hK hP21 0 (fs := [.ref (E.2.2.2 + 1), .ref (E.2.2.2 + 3), .ref (E.2.2.2 + 4), .ref (E.2.2.2 + 6), .ref (E.2.2.2 + 8), .ref (E.2.2.2 + 11), .ref (E.2.2.2 + 27), .null, .null, .null, .null, .null]) rfl rfl 0 (by decide) (hts _ wk_f10_12) (fun x h => h) rfl (dk zX10_init 46 rfl) ?_
  refine y_initL (as := [.ref (E.2.2.2 + 1)]) (rest := [.ref (E.2.2.2 + 42), .ref (E.2.2.2)]) hx hb hml hown hts hN hK (k_9_42 E) wk_ml10_57 wk_cd9 wk_in9 wk_im9 rfl ⟨by decide, by decide, by show _ = some 1; decide +kernel⟩ ⟨Nat.le_of_ble_eq_true rfl, Nat.le_of_ble_eq_true rfl⟩ hl.1 (Nat.le_of_ble_eq_true rfl) (dk zX10_init 47 rfl) ⟨Nat.le_of_ble_eq_true rfl, Nat.le_of_ble_eq_true rfl⟩ hP21 hD21 hS21 (fun q h => by omega) z21 rfl (fun H22 l22 z22 hP22 hD22 hS22 => ?_)
  rw [mk_app] at hP22 hD22
  replace hP22 : va_P E.2.1 classes ((E.2.2.2, .inr (10, [.ref (E.2.2.2 + 1), .ref (E.2.2.2 + 3), .ref (E.2.2.2 + 4), .ref (E.2.2.2 + 6), .ref (E.2.2.2 + 8), .ref (E.2.2.2 + 11), .ref (E.2.2.2 + 27), .null, .null, .null, .null, .null])) :: (E.2.2.2 + 3, .inl (E.2.2.1 23, 4, .inr (.inr (.inr (.inr (fun _ => none)))))) :: mk E ([1, 2] ++ [4, 5] ++ [6, 7] ++ [8, 9, 10] ++ [11, 12, 13, 14, 15, 16, 17, 18, 19, 20, 21, 22, 23, 24, 25, 26] ++ [27, 28, 29, 30, 31, 32, 33, 34, 35, 36, 37, 38, 39, 40, 41] ++ [42, 43, 44, 45, 46, 47, 48, 49, 50, 51, 52, 53, 54, 55, 56, 57, 58, 59, 60, 61, 62, 63, 64, 65, 66, 67, 68, 69, 70, 71, 72, 73, 74, 75, 76, 77])) H22 := hP22
  replace hD22 : va_D (fun q => E.2.2.2 ≤ q) (((E.2.2.2, .inr (10, [.ref (E.2.2.2 + 1), .ref (E.2.2.2 + 3), .ref (E.2.2.2 + 4), .ref (E.2.2.2 + 6), .ref (E.2.2.2 + 8), .ref (E.2.2.2 + 11), .ref (E.2.2.2 + 27), .null, .null, .null, .null, .null])) :: (E.2.2.2 + 3, .inl (E.2.2.1 23, 4, .inr (.inr (.inr (.inr (fun _ => none)))))) :: mk E ([1, 2] ++ [4, 5] ++ [6, 7] ++ [8, 9, 10] ++ [11, 12, 13, 14, 15, 16, 17, 18, 19, 20, 21, 22, 23, 24, 25, 26] ++ [27, 28, 29, 30, 31, 32, 33, 34, 35, 36, 37, 38, 39, 40, 41] ++ [42, 43, 44, 45, 46, 47, 48, 49, 50, 51, 52, 53, 54, 55, 56, 57, 58, 59, 60, 61, 62, 63, 64, 65, 66, 67, 68, 69, 70, 71, 72, 73, 74, 75, 76, 77])) : va_W) := hD22
  replace z22 : H22.size = E.2.2.2 + 78 := z22
  clear hP21 hD21 hS21 z21
  refine va_putF hx hb (Ts := tbG) hts iG10 tyX10 tyX10_ok nmX10 hown hK hP22 hD22 (y_rf hS22) 0 (fs := [.ref (E.2.2.2 + 1), .ref (E.2.2.2 + 3), .ref (E.2.2.2 + 4), .ref (E.2.2.2 + 6), .ref (E.2.2.2 + 8), .ref (E.2.2.2 + 11), .ref (E.2.2.2 + 27), .null, .null, .null, .null, .null]) rfl rfl 7 (by decide) (hts _ wk_f10_58) (fun x h => h) rfl hin rfl (ty := .object "StampsCancel$Walks") rfl rfl rfl (Nat.lt_of_lt_of_le (Nat.lt_succ_self _) (Nat.le_of_ble_eq_true rfl)) (dk zX10_init 48 rfl) (fun H23 l23 hP23 hD23 hT23 => ?_)
  refine y_size (fun hle23 => ?_)
  have z23 := y_eqz hsz z22 hT23 hle23 rfl
  have hS23 := y_tr hS22 hT23
  replace hP23 : va_P E.2.1 classes ((E.2.2.2, .inr (10, [.ref (E.2.2.2 + 1), .ref (E.2.2.2 + 3), .ref (E.2.2.2 + 4), .ref (E.2.2.2 + 6), .ref (E.2.2.2 + 8), .ref (E.2.2.2 + 11), .ref (E.2.2.2 + 27), .ref (E.2.2.2 + 42), .null, .null, .null, .null])) :: (E.2.2.2 + 3, .inl (E.2.2.1 23, 4, .inr (.inr (.inr (.inr (fun _ => none)))))) :: mk E ([1, 2] ++ [4, 5] ++ [6, 7] ++ [8, 9, 10] ++ [11, 12, 13, 14, 15, 16, 17, 18, 19, 20, 21, 22, 23, 24, 25, 26] ++ [27, 28, 29, 30, 31, 32, 33, 34, 35, 36, 37, 38, 39, 40, 41] ++ [42, 43, 44, 45, 46, 47, 48, 49, 50, 51, 52, 53, 54, 55, 56, 57, 58, 59, 60, 61, 62, 63, 64, 65, 66, 67, 68, 69, 70, 71, 72, 73, 74, 75, 76, 77])) H23 := hP23
  replace hD23 : va_D (fun q => E.2.2.2 ≤ q) (((E.2.2.2, .inr (10, [.ref (E.2.2.2 + 1), .ref (E.2.2.2 + 3), .ref (E.2.2.2 + 4), .ref (E.2.2.2 + 6), .ref (E.2.2.2 + 8), .ref (E.2.2.2 + 11), .ref (E.2.2.2 + 27), .ref (E.2.2.2 + 42), .null, .null, .null, .null])) :: (E.2.2.2 + 3, .inl (E.2.2.1 23, 4, .inr (.inr (.inr (.inr (fun _ => none)))))) :: mk E ([1, 2] ++ [4, 5] ++ [6, 7] ++ [8, 9, 10] ++ [11, 12, 13, 14, 15, 16, 17, 18, 19, 20, 21, 22, 23, 24, 25, 26] ++ [27, 28, 29, 30, 31, 32, 33, 34, 35, 36, 37, 38, 39, 40, 41] ++ [42, 43, 44, 45, 46, 47, 48, 49, 50, 51, 52, 53, 54, 55, 56, 57, 58, 59, 60, 61, 62, 63, 64, 65, 66, 67, 68, 69, 70, 71, 72, 73, 74, 75, 76, 77])) : va_W) := hD23
  replace z23 : H23.size = E.2.2.2 + 78 := z23
  clear hP22 hD22 hS22 z22 hT23 hle23
  refine lv_aload_n hx hb (dk zX10_init 49 rfl) rfl (lv_at hl 0 rfl) ?_
  refine y_new (own := RX10) (C := RX4) (T := TX4) (N := 5) (ci := 4) (index := 62) (fs := [.null, .null, .null, .null, .int 0]) hx hb hts iG4 tyX4 tyX4_ok hown (hts _ wk_cl10_62) (hts _ wk_is4) (hts _ wk_in4) hK hP23 hD23 hS23 hA rfl (fun j hj => by
    rcases (show j = 0 ∨ j = 1 ∨ j = 2 ∨ j = 3 ∨ j = 4 by omega) with rfl | rfl | rfl | rfl | rfl <;> rfl) (Nat.le_of_ble_eq_true rfl) (Nat.le_of_ble_eq_true rfl) z23 (dk zX10_init 50 rfl) (fun H24 z24 hP24 hD24 hS24 o24 => ?_)
  replace z24 : H24.size = E.2.2.2 + 79 := z24
  clear hP23 hD23 hS23 z23 o24
  refine lv_dup hx hb (dk zX10_init 51 rfl) rfl ?_
  refine y_initN (as := []) (rest := [.ref (E.2.2.2 + 78), .ref (E.2.2.2)]) hx hb hml hown hts hN hK (k_4_78 E) (List.mem_of_getElem? (i := 2) rfl) wk_cd4 wk_in4 wk_im4 rfl ⟨by decide, by decide, by show _ = some 0; decide +kernel⟩ ⟨Nat.le_of_ble_eq_true rfl, Nat.le_of_ble_eq_true rfl⟩ hl.1 (Nat.le_of_ble_eq_true rfl) (dk zX10_init 52 rfl) ⟨Nat.le_of_ble_eq_true rfl, Nat.le_of_ble_eq_true rfl⟩ hP24 hD24 hS24 (fun q h => by omega) z24 rfl (fun H25 l25 z25 hP25 hD25 hS25 => ?_)
  rw [mk_app] at hP25 hD25
  replace hP25 : va_P E.2.1 classes ((E.2.2.2, .inr (10, [.ref (E.2.2.2 + 1), .ref (E.2.2.2 + 3), .ref (E.2.2.2 + 4), .ref (E.2.2.2 + 6), .ref (E.2.2.2 + 8), .ref (E.2.2.2 + 11), .ref (E.2.2.2 + 27), .ref (E.2.2.2 + 42), .null, .null, .null, .null])) :: (E.2.2.2 + 3, .inl (E.2.2.1 23, 4, .inr (.inr (.inr (.inr (fun _ => none)))))) :: mk E ([1, 2] ++ [4, 5] ++ [6, 7] ++ [8, 9, 10] ++ [11, 12, 13, 14, 15, 16, 17, 18, 19, 20, 21, 22, 23, 24, 25, 26] ++ [27, 28, 29, 30, 31, 32, 33, 34, 35, 36, 37, 38, 39, 40, 41] ++ [42, 43, 44, 45, 46, 47, 48, 49, 50, 51, 52, 53, 54, 55, 56, 57, 58, 59, 60, 61, 62, 63, 64, 65, 66, 67, 68, 69, 70, 71, 72, 73, 74, 75, 76, 77] ++ [78, 79, 80, 81, 82])) H25 := hP25
  replace hD25 : va_D (fun q => E.2.2.2 ≤ q) (((E.2.2.2, .inr (10, [.ref (E.2.2.2 + 1), .ref (E.2.2.2 + 3), .ref (E.2.2.2 + 4), .ref (E.2.2.2 + 6), .ref (E.2.2.2 + 8), .ref (E.2.2.2 + 11), .ref (E.2.2.2 + 27), .ref (E.2.2.2 + 42), .null, .null, .null, .null])) :: (E.2.2.2 + 3, .inl (E.2.2.1 23, 4, .inr (.inr (.inr (.inr (fun _ => none)))))) :: mk E ([1, 2] ++ [4, 5] ++ [6, 7] ++ [8, 9, 10] ++ [11, 12, 13, 14, 15, 16, 17, 18, 19, 20, 21, 22, 23, 24, 25, 26] ++ [27, 28, 29, 30, 31, 32, 33, 34, 35, 36, 37, 38, 39, 40, 41] ++ [42, 43, 44, 45, 46, 47, 48, 49, 50, 51, 52, 53, 54, 55, 56, 57, 58, 59, 60, 61, 62, 63, 64, 65, 66, 67, 68, 69, 70, 71, 72, 73, 74, 75, 76, 77] ++ [78, 79, 80, 81, 82])) : va_W) := hD25
  replace z25 : H25.size = E.2.2.2 + 83 := z25
  clear hP24 hD24 hS24 z24
  refine va_putF hx hb (Ts := tbG) hts iG10 tyX10 tyX10_ok nmX10 hown hK hP25 hD25 (y_rf hS25) 0 (fs := [.ref (E.2.2.2 + 1), .ref (E.2.2.2 + 3), .ref (E.2.2.2 + 4), .ref (E.2.2.2 + 6), .ref (E.2.2.2 + 8), .ref (E.2.2.2 + 11), .ref (E.2.2.2 + 27), .ref (E.2.2.2 + 42), .null, .null, .null, .null]) rfl rfl 8 (by decide) (hts _ wk_f10_65) (fun x h => h) rfl hin rfl (ty := .object "StampsCancel$Listing") rfl rfl rfl (Nat.lt_of_lt_of_le (Nat.lt_succ_self _) (Nat.le_of_ble_eq_true rfl)) (dk zX10_init 53 rfl) (fun H26 l26 hP26 hD26 hT26 => ?_)
  refine y_size (fun hle26 => ?_)
  have z26 := y_eqz hsz z25 hT26 hle26 rfl
  have hS26 := y_tr hS25 hT26
  replace hP26 : va_P E.2.1 classes ((E.2.2.2, .inr (10, [.ref (E.2.2.2 + 1), .ref (E.2.2.2 + 3), .ref (E.2.2.2 + 4), .ref (E.2.2.2 + 6), .ref (E.2.2.2 + 8), .ref (E.2.2.2 + 11), .ref (E.2.2.2 + 27), .ref (E.2.2.2 + 42), .ref (E.2.2.2 + 78), .null, .null, .null])) :: (E.2.2.2 + 3, .inl (E.2.2.1 23, 4, .inr (.inr (.inr (.inr (fun _ => none)))))) :: mk E ([1, 2] ++ [4, 5] ++ [6, 7] ++ [8, 9, 10] ++ [11, 12, 13, 14, 15, 16, 17, 18, 19, 20, 21, 22, 23, 24, 25, 26] ++ [27, 28, 29, 30, 31, 32, 33, 34, 35, 36, 37, 38, 39, 40, 41] ++ [42, 43, 44, 45, 46, 47, 48, 49, 50, 51, 52, 53, 54, 55, 56, 57, 58, 59, 60, 61, 62, 63, 64, 65, 66, 67, 68, 69, 70, 71, 72, 73, 74, 75, 76, 77] ++ [78, 79, 80, 81, 82])) H26 := hP26
  replace hD26 : va_D (fun q => E.2.2.2 ≤ q) (((E.2.2.2, .inr (10, [.ref (E.2.2.2 + 1), .ref (E.2.2.2 + 3), .ref (E.2.2.2 + 4), .ref (E.2.2.2 + 6), .ref (E.2.2.2 + 8), .ref (E.2.2.2 + 11), .ref (E.2.2.2 + 27), .ref (E.2.2.2 + 42), .ref (E.2.2.2 + 78), .null, .null, .null])) :: (E.2.2.2 + 3, .inl (E.2.2.1 23, 4, .inr (.inr (.inr (.inr (fun _ => none)))))) :: mk E ([1, 2] ++ [4, 5] ++ [6, 7] ++ [8, 9, 10] ++ [11, 12, 13, 14, 15, 16, 17, 18, 19, 20, 21, 22, 23, 24, 25, 26] ++ [27, 28, 29, 30, 31, 32, 33, 34, 35, 36, 37, 38, 39, 40, 41] ++ [42, 43, 44, 45, 46, 47, 48, 49, 50, 51, 52, 53, 54, 55, 56, 57, 58, 59, 60, 61, 62, 63, 64, 65, 66, 67, 68, 69, 70, 71, 72, 73, 74, 75, 76, 77] ++ [78, 79, 80, 81, 82])) : va_W) := hD26
  replace z26 : H26.size = E.2.2.2 + 83 := z26
  clear hP25 hD25 hS25 z25 hT26 hle26
  refine lv_aload_n hx hb (dk zX10_init 54 rfl) rfl (lv_at hl 0 rfl) ?_
  refine y_new (own := RX10) (C := RX0) (T := TX0) (N := 3) (ci := 0) (index := 69) (fs := [.null, .null, .null]) hx hb hts iG0 tyX0 tyX0_ok hown (hts _ wk_cl10_69) (hts _ wk_is0) (hts _ wk_in0) hK hP26 hD26 hS26 hA rfl (fun j hj => by
    rcases (show j = 0 ∨ j = 1 ∨ j = 2 by omega) with rfl | rfl | rfl <;> rfl) (Nat.le_of_ble_eq_true rfl) (Nat.le_of_ble_eq_true rfl) z26 (dk zX10_init 55 rfl) (fun H27 z27 hP27 hD27 hS27 o27 => ?_)
  replace z27 : H27.size = E.2.2.2 + 84 := z27
  clear hP26 hD26 hS26 z26 o27
  refine lv_dup hx hb (dk zX10_init 56 rfl) rfl ?_
  refine y_initN (as := []) (rest := [.ref (E.2.2.2 + 83), .ref (E.2.2.2)]) hx hb hml hown hts hN hK (k_0_83 E) (List.mem_of_getElem? (i := 3) rfl) wk_cd0 wk_in0 wk_im0 rfl ⟨by decide, by decide, by show _ = some 0; decide +kernel⟩ ⟨Nat.le_of_ble_eq_true rfl, Nat.le_of_ble_eq_true rfl⟩ hl.1 (Nat.le_of_ble_eq_true rfl) (dk zX10_init 57 rfl) ⟨Nat.le_of_ble_eq_true rfl, Nat.le_of_ble_eq_true rfl⟩ hP27 hD27 hS27 (fun q h => by omega) z27 rfl (fun H28 l28 z28 hP28 hD28 hS28 => ?_)
  rw [mk_app] at hP28 hD28
  replace hP28 : va_P E.2.1 classes ((E.2.2.2, .inr (10, [.ref (E.2.2.2 + 1), .ref (E.2.2.2 + 3), .ref (E.2.2.2 + 4), .ref (E.2.2.2 + 6), .ref (E.2.2.2 + 8), .ref (E.2.2.2 + 11), .ref (E.2.2.2 + 27), .ref (E.2.2.2 + 42), .ref (E.2.2.2 + 78), .null, .null, .null])) :: (E.2.2.2 + 3, .inl (E.2.2.1 23, 4, .inr (.inr (.inr (.inr (fun _ => none)))))) :: mk E ([1, 2] ++ [4, 5] ++ [6, 7] ++ [8, 9, 10] ++ [11, 12, 13, 14, 15, 16, 17, 18, 19, 20, 21, 22, 23, 24, 25, 26] ++ [27, 28, 29, 30, 31, 32, 33, 34, 35, 36, 37, 38, 39, 40, 41] ++ [42, 43, 44, 45, 46, 47, 48, 49, 50, 51, 52, 53, 54, 55, 56, 57, 58, 59, 60, 61, 62, 63, 64, 65, 66, 67, 68, 69, 70, 71, 72, 73, 74, 75, 76, 77] ++ [78, 79, 80, 81, 82] ++ [83, 84, 85, 86, 87, 88, 89, 90, 91, 92, 93, 94])) H28 := hP28
  replace hD28 : va_D (fun q => E.2.2.2 ≤ q) (((E.2.2.2, .inr (10, [.ref (E.2.2.2 + 1), .ref (E.2.2.2 + 3), .ref (E.2.2.2 + 4), .ref (E.2.2.2 + 6), .ref (E.2.2.2 + 8), .ref (E.2.2.2 + 11), .ref (E.2.2.2 + 27), .ref (E.2.2.2 + 42), .ref (E.2.2.2 + 78), .null, .null, .null])) :: (E.2.2.2 + 3, .inl (E.2.2.1 23, 4, .inr (.inr (.inr (.inr (fun _ => none)))))) :: mk E ([1, 2] ++ [4, 5] ++ [6, 7] ++ [8, 9, 10] ++ [11, 12, 13, 14, 15, 16, 17, 18, 19, 20, 21, 22, 23, 24, 25, 26] ++ [27, 28, 29, 30, 31, 32, 33, 34, 35, 36, 37, 38, 39, 40, 41] ++ [42, 43, 44, 45, 46, 47, 48, 49, 50, 51, 52, 53, 54, 55, 56, 57, 58, 59, 60, 61, 62, 63, 64, 65, 66, 67, 68, 69, 70, 71, 72, 73, 74, 75, 76, 77] ++ [78, 79, 80, 81, 82] ++ [83, 84, 85, 86, 87, 88, 89, 90, 91, 92, 93, 94])) : va_W) := hD28
  replace z28 : H28.size = E.2.2.2 + 95 := z28
  clear hP27 hD27 hS27 z27
  refine va_putF hx hb (Ts := tbG) hts iG10 tyX10 tyX10_ok nmX10 hown hK hP28 hD28 (y_rf hS28) 0 (fs := [.ref (E.2.2.2 + 1), .ref (E.2.2.2 + 3), .ref (E.2.2.2 + 4), .ref (E.2.2.2 + 6), .ref (E.2.2.2 + 8), .ref (E.2.2.2 + 11), .ref (E.2.2.2 + 27), .ref (E.2.2.2 + 42), .ref (E.2.2.2 + 78), .null, .null, .null]) rfl rfl 9 (by decide) (hts _ wk_f10_72) (fun x h => h) rfl hin rfl (ty := .object "StampsCancel$Distances") rfl rfl rfl (Nat.lt_of_lt_of_le (Nat.lt_succ_self _) (Nat.le_of_ble_eq_true rfl)) (dk zX10_init 58 rfl) (fun H29 l29 hP29 hD29 hT29 => ?_)
  refine y_size (fun hle29 => ?_)
  have z29 := y_eqz hsz z28 hT29 hle29 rfl
  have hS29 := y_tr hS28 hT29
  replace hP29 : va_P E.2.1 classes ((E.2.2.2, .inr (10, [.ref (E.2.2.2 + 1), .ref (E.2.2.2 + 3), .ref (E.2.2.2 + 4), .ref (E.2.2.2 + 6), .ref (E.2.2.2 + 8), .ref (E.2.2.2 + 11), .ref (E.2.2.2 + 27), .ref (E.2.2.2 + 42), .ref (E.2.2.2 + 78), .ref (E.2.2.2 + 83), .null, .null])) :: (E.2.2.2 + 3, .inl (E.2.2.1 23, 4, .inr (.inr (.inr (.inr (fun _ => none)))))) :: mk E ([1, 2] ++ [4, 5] ++ [6, 7] ++ [8, 9, 10] ++ [11, 12, 13, 14, 15, 16, 17, 18, 19, 20, 21, 22, 23, 24, 25, 26] ++ [27, 28, 29, 30, 31, 32, 33, 34, 35, 36, 37, 38, 39, 40, 41] ++ [42, 43, 44, 45, 46, 47, 48, 49, 50, 51, 52, 53, 54, 55, 56, 57, 58, 59, 60, 61, 62, 63, 64, 65, 66, 67, 68, 69, 70, 71, 72, 73, 74, 75, 76, 77] ++ [78, 79, 80, 81, 82] ++ [83, 84, 85, 86, 87, 88, 89, 90, 91, 92, 93, 94])) H29 := hP29
  replace hD29 : va_D (fun q => E.2.2.2 ≤ q) (((E.2.2.2, .inr (10, [.ref (E.2.2.2 + 1), .ref (E.2.2.2 + 3), .ref (E.2.2.2 + 4), .ref (E.2.2.2 + 6), .ref (E.2.2.2 + 8), .ref (E.2.2.2 + 11), .ref (E.2.2.2 + 27), .ref (E.2.2.2 + 42), .ref (E.2.2.2 + 78), .ref (E.2.2.2 + 83), .null, .null])) :: (E.2.2.2 + 3, .inl (E.2.2.1 23, 4, .inr (.inr (.inr (.inr (fun _ => none)))))) :: mk E ([1, 2] ++ [4, 5] ++ [6, 7] ++ [8, 9, 10] ++ [11, 12, 13, 14, 15, 16, 17, 18, 19, 20, 21, 22, 23, 24, 25, 26] ++ [27, 28, 29, 30, 31, 32, 33, 34, 35, 36, 37, 38, 39, 40, 41] ++ [42, 43, 44, 45, 46, 47, 48, 49, 50, 51, 52, 53, 54, 55, 56, 57, 58, 59, 60, 61, 62, 63, 64, 65, 66, 67, 68, 69, 70, 71, 72, 73, 74, 75, 76, 77] ++ [78, 79, 80, 81, 82] ++ [83, 84, 85, 86, 87, 88, 89, 90, 91, 92, 93, 94])) : va_W) := hD29
  replace z29 : H29.size = E.2.2.2 + 95 := z29
  clear hP28 hD28 hS28 z28 hT29 hle29
  refine lv_aload_n hx hb (dk zX10_init 59 rfl) rfl (lv_at hl 0 rfl) ?_
  refine y_new (own := RX10) (C := RX0) (T := TX0) (N := 3) (ci := 0) (index := 69) (fs := [.null, .null, .null]) hx hb hts iG0 tyX0 tyX0_ok hown (hts _ wk_cl10_69) (hts _ wk_is0) (hts _ wk_in0) hK hP29 hD29 hS29 hA rfl (fun j hj => by
    rcases (show j = 0 ∨ j = 1 ∨ j = 2 by omega) with rfl | rfl | rfl <;> rfl) (Nat.le_of_ble_eq_true rfl) (Nat.le_of_ble_eq_true rfl) z29 (dk zX10_init 60 rfl) (fun H30 z30 hP30 hD30 hS30 o30 => ?_)
  replace z30 : H30.size = E.2.2.2 + 96 := z30
  clear hP29 hD29 hS29 z29 o30
  refine lv_dup hx hb (dk zX10_init 61 rfl) rfl ?_
  refine y_initN (as := []) (rest := [.ref (E.2.2.2 + 95), .ref (E.2.2.2)]) hx hb hml hown hts hN hK (k_0_95 E) (List.mem_of_getElem? (i := 3) rfl) wk_cd0 wk_in0 wk_im0 rfl ⟨by decide, by decide, by show _ = some 0; decide +kernel⟩ ⟨Nat.le_of_ble_eq_true rfl, Nat.le_of_ble_eq_true rfl⟩ hl.1 (Nat.le_of_ble_eq_true rfl) (dk zX10_init 62 rfl) ⟨Nat.le_of_ble_eq_true rfl, Nat.le_of_ble_eq_true rfl⟩ hP30 hD30 hS30 (fun q h => by omega) z30 rfl (fun H31 l31 z31 hP31 hD31 hS31 => ?_)
  rw [mk_app] at hP31 hD31
  replace hP31 : va_P E.2.1 classes ((E.2.2.2, .inr (10, [.ref (E.2.2.2 + 1), .ref (E.2.2.2 + 3), .ref (E.2.2.2 + 4), .ref (E.2.2.2 + 6), .ref (E.2.2.2 + 8), .ref (E.2.2.2 + 11), .ref (E.2.2.2 + 27), .ref (E.2.2.2 + 42), .ref (E.2.2.2 + 78), .ref (E.2.2.2 + 83), .null, .null])) :: (E.2.2.2 + 3, .inl (E.2.2.1 23, 4, .inr (.inr (.inr (.inr (fun _ => none)))))) :: mk E ([1, 2] ++ [4, 5] ++ [6, 7] ++ [8, 9, 10] ++ [11, 12, 13, 14, 15, 16, 17, 18, 19, 20, 21, 22, 23, 24, 25, 26] ++ [27, 28, 29, 30, 31, 32, 33, 34, 35, 36, 37, 38, 39, 40, 41] ++ [42, 43, 44, 45, 46, 47, 48, 49, 50, 51, 52, 53, 54, 55, 56, 57, 58, 59, 60, 61, 62, 63, 64, 65, 66, 67, 68, 69, 70, 71, 72, 73, 74, 75, 76, 77] ++ [78, 79, 80, 81, 82] ++ [83, 84, 85, 86, 87, 88, 89, 90, 91, 92, 93, 94] ++ [95, 96, 97, 98, 99, 100, 101, 102, 103, 104, 105, 106])) H31 := hP31
  replace hD31 : va_D (fun q => E.2.2.2 ≤ q) (((E.2.2.2, .inr (10, [.ref (E.2.2.2 + 1), .ref (E.2.2.2 + 3), .ref (E.2.2.2 + 4), .ref (E.2.2.2 + 6), .ref (E.2.2.2 + 8), .ref (E.2.2.2 + 11), .ref (E.2.2.2 + 27), .ref (E.2.2.2 + 42), .ref (E.2.2.2 + 78), .ref (E.2.2.2 + 83), .null, .null])) :: (E.2.2.2 + 3, .inl (E.2.2.1 23, 4, .inr (.inr (.inr (.inr (fun _ => none)))))) :: mk E ([1, 2] ++ [4, 5] ++ [6, 7] ++ [8, 9, 10] ++ [11, 12, 13, 14, 15, 16, 17, 18, 19, 20, 21, 22, 23, 24, 25, 26] ++ [27, 28, 29, 30, 31, 32, 33, 34, 35, 36, 37, 38, 39, 40, 41] ++ [42, 43, 44, 45, 46, 47, 48, 49, 50, 51, 52, 53, 54, 55, 56, 57, 58, 59, 60, 61, 62, 63, 64, 65, 66, 67, 68, 69, 70, 71, 72, 73, 74, 75, 76, 77] ++ [78, 79, 80, 81, 82] ++ [83, 84, 85, 86, 87, 88, 89, 90, 91, 92, 93, 94] ++ [95, 96, 97, 98, 99, 100, 101, 102, 103, 104, 105, 106])) : va_W) := hD31
  replace z31 : H31.size = E.2.2.2 + 107 := z31
  clear hP30 hD30 hS30 z30
  refine va_putF hx hb (Ts := tbG) hts iG10 tyX10 tyX10_ok nmX10 hown hK hP31 hD31 (y_rf hS31) 0 (fs := [.ref (E.2.2.2 + 1), .ref (E.2.2.2 + 3), .ref (E.2.2.2 + 4), .ref (E.2.2.2 + 6), .ref (E.2.2.2 + 8), .ref (E.2.2.2 + 11), .ref (E.2.2.2 + 27), .ref (E.2.2.2 + 42), .ref (E.2.2.2 + 78), .ref (E.2.2.2 + 83), .null, .null]) rfl rfl 10 (by decide) (hts _ wk_f10_76) (fun x h => h) rfl hin rfl (ty := .object "StampsCancel$Distances") rfl rfl rfl (Nat.lt_of_lt_of_le (Nat.lt_succ_self _) (Nat.le_of_ble_eq_true rfl)) (dk zX10_init 63 rfl) (fun H32 l32 hP32 hD32 hT32 => ?_)
  refine y_size (fun hle32 => ?_)
  have z32 := y_eqz hsz z31 hT32 hle32 rfl
  have hS32 := y_tr hS31 hT32
  replace hP32 : va_P E.2.1 classes ((E.2.2.2, .inr (10, [.ref (E.2.2.2 + 1), .ref (E.2.2.2 + 3), .ref (E.2.2.2 + 4), .ref (E.2.2.2 + 6), .ref (E.2.2.2 + 8), .ref (E.2.2.2 + 11), .ref (E.2.2.2 + 27), .ref (E.2.2.2 + 42), .ref (E.2.2.2 + 78), .ref (E.2.2.2 + 83), .ref (E.2.2.2 + 95), .null])) :: (E.2.2.2 + 3, .inl (E.2.2.1 23, 4, .inr (.inr (.inr (.inr (fun _ => none)))))) :: mk E ([1, 2] ++ [4, 5] ++ [6, 7] ++ [8, 9, 10] ++ [11, 12, 13, 14, 15, 16, 17, 18, 19, 20, 21, 22, 23, 24, 25, 26] ++ [27, 28, 29, 30, 31, 32, 33, 34, 35, 36, 37, 38, 39, 40, 41] ++ [42, 43, 44, 45, 46, 47, 48, 49, 50, 51, 52, 53, 54, 55, 56, 57, 58, 59, 60, 61, 62, 63, 64, 65, 66, 67, 68, 69, 70, 71, 72, 73, 74, 75, 76, 77] ++ [78, 79, 80, 81, 82] ++ [83, 84, 85, 86, 87, 88, 89, 90, 91, 92, 93, 94] ++ [95, 96, 97, 98, 99, 100, 101, 102, 103, 104, 105, 106])) H32 := hP32
  replace hD32 : va_D (fun q => E.2.2.2 ≤ q) (((E.2.2.2, .inr (10, [.ref (E.2.2.2 + 1), .ref (E.2.2.2 + 3), .ref (E.2.2.2 + 4), .ref (E.2.2.2 + 6), .ref (E.2.2.2 + 8), .ref (E.2.2.2 + 11), .ref (E.2.2.2 + 27), .ref (E.2.2.2 + 42), .ref (E.2.2.2 + 78), .ref (E.2.2.2 + 83), .ref (E.2.2.2 + 95), .null])) :: (E.2.2.2 + 3, .inl (E.2.2.1 23, 4, .inr (.inr (.inr (.inr (fun _ => none)))))) :: mk E ([1, 2] ++ [4, 5] ++ [6, 7] ++ [8, 9, 10] ++ [11, 12, 13, 14, 15, 16, 17, 18, 19, 20, 21, 22, 23, 24, 25, 26] ++ [27, 28, 29, 30, 31, 32, 33, 34, 35, 36, 37, 38, 39, 40, 41] ++ [42, 43, 44, 45, 46, 47, 48, 49, 50, 51, 52, 53, 54, 55, 56, 57, 58, 59, 60, 61, 62, 63, 64, 65, 66, 67, 68, 69, 70, 71, 72, 73, 74, 75, 76, 77] ++ [78, 79, 80, 81, 82] ++ [83, 84, 85, 86, 87, 88, 89, 90, 91, 92, 93, 94] ++ [95, 96, 97, 98, 99, 100, 101, 102, 103, 104, 105, 106])) : va_W) := hD32
  replace z32 : H32.size = E.2.2.2 + 107 := z32
  clear hP31 hD31 hS31 z31 hT32 hle32
  refine lv_aload_n hx hb (dk zX10_init 64 rfl) rfl (lv_at hl 0 rfl) ?_
  refine y_new (own := RX10) (C := RX7) (T := TX7) (N := 4) (ci := 7) (index := 79) (fs := [.null, .null, .null, .int 0]) hx hb hts iG7 tyX7 tyX7_ok hown (hts _ wk_cl10_79) (hts _ wk_is7) (hts _ wk_in7) hK hP32 hD32 hS32 hA rfl (fun j hj => by
    rcases (show j = 0 ∨ j = 1 ∨ j = 2 ∨ j = 3 by omega) with rfl | rfl | rfl | rfl <;> rfl) (Nat.le_of_ble_eq_true rfl) (Nat.le_of_ble_eq_true rfl) z32 (dk zX10_init 65 rfl) (fun H33 z33 hP33 hD33 hS33 o33 => ?_)
  replace z33 : H33.size = E.2.2.2 + 108 := z33
  clear hP32 hD32 hS32 z32 o33
  refine lv_dup hx hb (dk zX10_init 66 rfl) rfl ?_
  refine y_initL (as := []) (rest := [.ref (E.2.2.2 + 107), .ref (E.2.2.2)]) hx hb hml hown hts hN hK (k_7_107 E) wk_ml10_81 wk_cd7 wk_in7 wk_im7 rfl ⟨by decide, by decide, by show _ = some 0; decide +kernel⟩ ⟨Nat.le_of_ble_eq_true rfl, Nat.le_of_ble_eq_true rfl⟩ hl.1 (Nat.le_of_ble_eq_true rfl) (dk zX10_init 67 rfl) ⟨Nat.le_of_ble_eq_true rfl, Nat.le_of_ble_eq_true rfl⟩ hP33 hD33 hS33 (fun q h => by omega) z33 rfl (fun H34 l34 z34 hP34 hD34 hS34 => ?_)
  rw [mk_app] at hP34 hD34
  replace hP34 : va_P E.2.1 classes ((E.2.2.2, .inr (10, [.ref (E.2.2.2 + 1), .ref (E.2.2.2 + 3), .ref (E.2.2.2 + 4), .ref (E.2.2.2 + 6), .ref (E.2.2.2 + 8), .ref (E.2.2.2 + 11), .ref (E.2.2.2 + 27), .ref (E.2.2.2 + 42), .ref (E.2.2.2 + 78), .ref (E.2.2.2 + 83), .ref (E.2.2.2 + 95), .null])) :: (E.2.2.2 + 3, .inl (E.2.2.1 23, 4, .inr (.inr (.inr (.inr (fun _ => none)))))) :: mk E ([1, 2] ++ [4, 5] ++ [6, 7] ++ [8, 9, 10] ++ [11, 12, 13, 14, 15, 16, 17, 18, 19, 20, 21, 22, 23, 24, 25, 26] ++ [27, 28, 29, 30, 31, 32, 33, 34, 35, 36, 37, 38, 39, 40, 41] ++ [42, 43, 44, 45, 46, 47, 48, 49, 50, 51, 52, 53, 54, 55, 56, 57, 58, 59, 60, 61, 62, 63, 64, 65, 66, 67, 68, 69, 70, 71, 72, 73, 74, 75, 76, 77] ++ [78, 79, 80, 81, 82] ++ [83, 84, 85, 86, 87, 88, 89, 90, 91, 92, 93, 94] ++ [95, 96, 97, 98, 99, 100, 101, 102, 103, 104, 105, 106] ++ [107, 108, 109, 110, 111, 112, 113, 114])) H34 := hP34
  replace hD34 : va_D (fun q => E.2.2.2 ≤ q) (((E.2.2.2, .inr (10, [.ref (E.2.2.2 + 1), .ref (E.2.2.2 + 3), .ref (E.2.2.2 + 4), .ref (E.2.2.2 + 6), .ref (E.2.2.2 + 8), .ref (E.2.2.2 + 11), .ref (E.2.2.2 + 27), .ref (E.2.2.2 + 42), .ref (E.2.2.2 + 78), .ref (E.2.2.2 + 83), .ref (E.2.2.2 + 95), .null])) :: (E.2.2.2 + 3, .inl (E.2.2.1 23, 4, .inr (.inr (.inr (.inr (fun _ => none)))))) :: mk E ([1, 2] ++ [4, 5] ++ [6, 7] ++ [8, 9, 10] ++ [11, 12, 13, 14, 15, 16, 17, 18, 19, 20, 21, 22, 23, 24, 25, 26] ++ [27, 28, 29, 30, 31, 32, 33, 34, 35, 36, 37, 38, 39, 40, 41] ++ [42, 43, 44, 45, 46, 47, 48, 49, 50, 51, 52, 53, 54, 55, 56, 57, 58, 59, 60, 61, 62, 63, 64, 65, 66, 67, 68, 69, 70, 71, 72, 73, 74, 75, 76, 77] ++ [78, 79, 80, 81, 82] ++ [83, 84, 85, 86, 87, 88, 89, 90, 91, 92, 93, 94] ++ [95, 96, 97, 98, 99, 100, 101, 102, 103, 104, 105, 106] ++ [107, 108, 109, 110, 111, 112, 113, 114])) : va_W) := hD34
  replace z34 : H34.size = E.2.2.2 + 115 := z34
  clear hP33 hD33 hS33 z33
  refine va_putF hx hb (Ts := tbG) hts iG10 tyX10 tyX10_ok nmX10 hown hK hP34 hD34 (y_rf hS34) 0 (fs := [.ref (E.2.2.2 + 1), .ref (E.2.2.2 + 3), .ref (E.2.2.2 + 4), .ref (E.2.2.2 + 6), .ref (E.2.2.2 + 8), .ref (E.2.2.2 + 11), .ref (E.2.2.2 + 27), .ref (E.2.2.2 + 42), .ref (E.2.2.2 + 78), .ref (E.2.2.2 + 83), .ref (E.2.2.2 + 95), .null]) rfl rfl 11 (by decide) (hts _ wk_f10_82) (fun x h => h) rfl hin rfl (ty := .object "StampsCancel$Sheets") rfl rfl rfl (Nat.lt_of_lt_of_le (Nat.lt_succ_self _) (Nat.le_of_ble_eq_true rfl)) (dk zX10_init 68 rfl) (fun H35 l35 hP35 hD35 hT35 => ?_)
  refine y_size (fun hle35 => ?_)
  have z35 := y_eqz hsz z34 hT35 hle35 rfl
  have hS35 := y_tr hS34 hT35
  replace hP35 : va_P E.2.1 classes ((E.2.2.2, .inr (10, [.ref (E.2.2.2 + 1), .ref (E.2.2.2 + 3), .ref (E.2.2.2 + 4), .ref (E.2.2.2 + 6), .ref (E.2.2.2 + 8), .ref (E.2.2.2 + 11), .ref (E.2.2.2 + 27), .ref (E.2.2.2 + 42), .ref (E.2.2.2 + 78), .ref (E.2.2.2 + 83), .ref (E.2.2.2 + 95), .ref (E.2.2.2 + 107)])) :: (E.2.2.2 + 3, .inl (E.2.2.1 23, 4, .inr (.inr (.inr (.inr (fun _ => none)))))) :: mk E ([1, 2] ++ [4, 5] ++ [6, 7] ++ [8, 9, 10] ++ [11, 12, 13, 14, 15, 16, 17, 18, 19, 20, 21, 22, 23, 24, 25, 26] ++ [27, 28, 29, 30, 31, 32, 33, 34, 35, 36, 37, 38, 39, 40, 41] ++ [42, 43, 44, 45, 46, 47, 48, 49, 50, 51, 52, 53, 54, 55, 56, 57, 58, 59, 60, 61, 62, 63, 64, 65, 66, 67, 68, 69, 70, 71, 72, 73, 74, 75, 76, 77] ++ [78, 79, 80, 81, 82] ++ [83, 84, 85, 86, 87, 88, 89, 90, 91, 92, 93, 94] ++ [95, 96, 97, 98, 99, 100, 101, 102, 103, 104, 105, 106] ++ [107, 108, 109, 110, 111, 112, 113, 114])) H35 := hP35
  replace hD35 : va_D (fun q => E.2.2.2 ≤ q) (((E.2.2.2, .inr (10, [.ref (E.2.2.2 + 1), .ref (E.2.2.2 + 3), .ref (E.2.2.2 + 4), .ref (E.2.2.2 + 6), .ref (E.2.2.2 + 8), .ref (E.2.2.2 + 11), .ref (E.2.2.2 + 27), .ref (E.2.2.2 + 42), .ref (E.2.2.2 + 78), .ref (E.2.2.2 + 83), .ref (E.2.2.2 + 95), .ref (E.2.2.2 + 107)])) :: (E.2.2.2 + 3, .inl (E.2.2.1 23, 4, .inr (.inr (.inr (.inr (fun _ => none)))))) :: mk E ([1, 2] ++ [4, 5] ++ [6, 7] ++ [8, 9, 10] ++ [11, 12, 13, 14, 15, 16, 17, 18, 19, 20, 21, 22, 23, 24, 25, 26] ++ [27, 28, 29, 30, 31, 32, 33, 34, 35, 36, 37, 38, 39, 40, 41] ++ [42, 43, 44, 45, 46, 47, 48, 49, 50, 51, 52, 53, 54, 55, 56, 57, 58, 59, 60, 61, 62, 63, 64, 65, 66, 67, 68, 69, 70, 71, 72, 73, 74, 75, 76, 77] ++ [78, 79, 80, 81, 82] ++ [83, 84, 85, 86, 87, 88, 89, 90, 91, 92, 93, 94] ++ [95, 96, 97, 98, 99, 100, 101, 102, 103, 104, 105, 106] ++ [107, 108, 109, 110, 111, 112, 113, 114])) : va_W) := hD35
  replace z35 : H35.size = E.2.2.2 + 115 := z35
  clear hP34 hD34 hS34 z34 hT35 hle35
  refine lv_iconst hx hb (dk zX10_init 69 rfl) (v := 0) rfl ?_
  refine lv_istore_n (lv' := [(1, .int 0), (0, .ref (E.2.2.2))]) hx hb (dk zX10_init 70 rfl) rfl hl (by decide) rfl (fun ls hl => ?_)
  refine lv_iload_n hx hb (dk zX10_init 71 rfl) rfl (lv_at hl 0 rfl) ?_
  refine lv_iconst hx hb (dk zX10_init 72 rfl) (v := 4) rfl ?_
  refine lv_icmp_ge (tgt := 186) hx hb (dk zX10_init 73 rfl) (by decide) (fun z => absurd z (by decide)) (fun _ => ?_)
  refine lv_aload_n hx hb (dk zX10_init 74 rfl) rfl (lv_at hl 1 rfl) ?_
  refine va_get hx hb (Ts := tbG) hts iG10 hown hK hP35 0 (fs := [.ref (E.2.2.2 + 1), .ref (E.2.2.2 + 3), .ref (E.2.2.2 + 4), .ref (E.2.2.2 + 6), .ref (E.2.2.2 + 8), .ref (E.2.2.2 + 11), .ref (E.2.2.2 + 27), .ref (E.2.2.2 + 42), .ref (E.2.2.2 + 78), .ref (E.2.2.2 + 83), .ref (E.2.2.2 + 95), .ref (E.2.2.2 + 107)]) rfl rfl 1 (by decide) (hts _ wk_f10_18) (fun x h => h) rfl (dk zX10_init 75 rfl) ?_
  refine lv_iload_n hx hb (dk zX10_init 76 rfl) rfl (lv_at hl 0 rfl) ?_
  refine y_new (own := RX10) (C := RX8) (T := TX8) (N := 3) (ci := 8) (index := 16) (fs := [.null, .int 0, .int 0]) hx hb hts iG8 tyX8 tyX8_ok hown (hts _ wk_cl10_16) (hts _ wk_is8) (hts _ wk_in8) hK hP35 hD35 hS35 hA rfl (fun j hj => by
    rcases (show j = 0 ∨ j = 1 ∨ j = 2 by omega) with rfl | rfl | rfl <;> rfl) (Nat.le_of_ble_eq_true rfl) (Nat.le_of_ble_eq_true rfl) z35 (dk zX10_init 77 rfl) (fun H36 z36 hP36 hD36 hS36 o36 => ?_)
  replace z36 : H36.size = E.2.2.2 + 116 := z36
  clear hP35 hD35 hS35 z35 o36
  refine lv_dup hx hb (dk zX10_init 78 rfl) rfl ?_
  refine lv_iload_n hx hb (dk zX10_init 79 rfl) rfl (lv_at hl 0 rfl) ?_
  refine lv_if_ne (tgt := 174) hx hb (dk zX10_init 80 rfl) (by decide) (fun z => absurd rfl z) (fun _ => ?_)
  refine lv_bipush hx hb (dk zX10_init 81 rfl) (v := 50) rfl ?_
  refine lv_goto (tgt := 176) hx hb (dk zX10_init 82 rfl) (by decide) ?_
  refine y_initL (as := [.int 50]) (rest := [.ref (E.2.2.2 + 115), .int 0, .ref (E.2.2.2 + 3)]) hx hb hml hown hts hN hK (k_8_115 E) wk_ml10_86 wk_cd8 wk_in8 wk_im8 rfl ⟨by decide, by decide, by show _ = some 1; decide +kernel⟩ ⟨Nat.le_of_ble_eq_true rfl, Nat.le_of_ble_eq_true rfl⟩ hl.1 (Nat.le_of_ble_eq_true rfl) (dk zX10_init 84 rfl) ⟨Nat.le_of_ble_eq_true rfl, Nat.le_of_ble_eq_true rfl⟩ hP36 hD36 hS36 (fun q h => by omega) z36 rfl (fun H37 l37 z37 hP37 hD37 hS37 => ?_)
  rw [mk_app] at hP37 hD37
  replace hP37 : va_P E.2.1 classes ((E.2.2.2, .inr (10, [.ref (E.2.2.2 + 1), .ref (E.2.2.2 + 3), .ref (E.2.2.2 + 4), .ref (E.2.2.2 + 6), .ref (E.2.2.2 + 8), .ref (E.2.2.2 + 11), .ref (E.2.2.2 + 27), .ref (E.2.2.2 + 42), .ref (E.2.2.2 + 78), .ref (E.2.2.2 + 83), .ref (E.2.2.2 + 95), .ref (E.2.2.2 + 107)])) :: (E.2.2.2 + 3, .inl (E.2.2.1 23, 4, .inr (.inr (.inr (.inr (fun _ => none)))))) :: mk E ([1, 2] ++ [4, 5] ++ [6, 7] ++ [8, 9, 10] ++ [11, 12, 13, 14, 15, 16, 17, 18, 19, 20, 21, 22, 23, 24, 25, 26] ++ [27, 28, 29, 30, 31, 32, 33, 34, 35, 36, 37, 38, 39, 40, 41] ++ [42, 43, 44, 45, 46, 47, 48, 49, 50, 51, 52, 53, 54, 55, 56, 57, 58, 59, 60, 61, 62, 63, 64, 65, 66, 67, 68, 69, 70, 71, 72, 73, 74, 75, 76, 77] ++ [78, 79, 80, 81, 82] ++ [83, 84, 85, 86, 87, 88, 89, 90, 91, 92, 93, 94] ++ [95, 96, 97, 98, 99, 100, 101, 102, 103, 104, 105, 106] ++ [107, 108, 109, 110, 111, 112, 113, 114] ++ [115, 116])) H37 := hP37
  replace hD37 : va_D (fun q => E.2.2.2 ≤ q) (((E.2.2.2, .inr (10, [.ref (E.2.2.2 + 1), .ref (E.2.2.2 + 3), .ref (E.2.2.2 + 4), .ref (E.2.2.2 + 6), .ref (E.2.2.2 + 8), .ref (E.2.2.2 + 11), .ref (E.2.2.2 + 27), .ref (E.2.2.2 + 42), .ref (E.2.2.2 + 78), .ref (E.2.2.2 + 83), .ref (E.2.2.2 + 95), .ref (E.2.2.2 + 107)])) :: (E.2.2.2 + 3, .inl (E.2.2.1 23, 4, .inr (.inr (.inr (.inr (fun _ => none)))))) :: mk E ([1, 2] ++ [4, 5] ++ [6, 7] ++ [8, 9, 10] ++ [11, 12, 13, 14, 15, 16, 17, 18, 19, 20, 21, 22, 23, 24, 25, 26] ++ [27, 28, 29, 30, 31, 32, 33, 34, 35, 36, 37, 38, 39, 40, 41] ++ [42, 43, 44, 45, 46, 47, 48, 49, 50, 51, 52, 53, 54, 55, 56, 57, 58, 59, 60, 61, 62, 63, 64, 65, 66, 67, 68, 69, 70, 71, 72, 73, 74, 75, 76, 77] ++ [78, 79, 80, 81, 82] ++ [83, 84, 85, 86, 87, 88, 89, 90, 91, 92, 93, 94] ++ [95, 96, 97, 98, 99, 100, 101, 102, 103, 104, 105, 106] ++ [107, 108, 109, 110, 111, 112, 113, 114] ++ [115, 116])) : va_W) := hD37
  replace z37 : H37.size = E.2.2.2 + 117 := z37
  clear hP36 hD36 hS36 z36
  have hm38 : (E.2.2.2 + 115, ce E m0 115) ∈ ((E.2.2.2, .inr (10, [.ref (E.2.2.2 + 1), .ref (E.2.2.2 + 3), .ref (E.2.2.2 + 4), .ref (E.2.2.2 + 6), .ref (E.2.2.2 + 8), .ref (E.2.2.2 + 11), .ref (E.2.2.2 + 27), .ref (E.2.2.2 + 42), .ref (E.2.2.2 + 78), .ref (E.2.2.2 + 83), .ref (E.2.2.2 + 95), .ref (E.2.2.2 + 107)])) :: (E.2.2.2 + 3, .inl (E.2.2.1 23, 4, .inr (.inr (.inr (.inr (fun _ => none)))))) :: mk E ([1, 2] ++ [4, 5] ++ [6, 7] ++ [8, 9, 10] ++ [11, 12, 13, 14, 15, 16, 17, 18, 19, 20, 21, 22, 23, 24, 25, 26] ++ [27, 28, 29, 30, 31, 32, 33, 34, 35, 36, 37, 38, 39, 40, 41] ++ [42, 43, 44, 45, 46, 47, 48, 49, 50, 51, 52, 53, 54, 55, 56, 57, 58, 59, 60, 61, 62, 63, 64, 65, 66, 67, 68, 69, 70, 71, 72, 73, 74, 75, 76, 77] ++ [78, 79, 80, 81, 82] ++ [83, 84, 85, 86, 87, 88, 89, 90, 91, 92, 93, 94] ++ [95, 96, 97, 98, 99, 100, 101, 102, 103, 104, 105, 106] ++ [107, 108, 109, 110, 111, 112, 113, 114] ++ [115, 116])) := List.mem_cons_of_mem _ (List.mem_cons_of_mem _ (List.mem_map.mpr ⟨115, by decide, rfl⟩))
  rw [ce_obj (E := E) (μ := m0) (o := 115) (ci := 8) rfl (by decide)] at hm38
  obtain ⟨qk38, hq38⟩ := List.getElem?_of_mem hm38
  refine va_astq (r := (RX8, TX8, 3)) hx hb hK hP37 hD37 (y_rf hS37) 1 3 qk38 8 rfl rfl hq38 rfl (by unfold vp_in; decide) (dk zX10_init 85 rfl) (fun H38 l38 hP38 hD38 hT38 => ?_)
  rw [show (0 : Int32).toNatClampNeg = 0 by decide] at hP38 hD38
  clear hm38 hq38
  refine y_size (fun hle38 => ?_)
  have z38 := y_eqz hsz z37 hT38 hle38 rfl
  have hS38 := y_tr hS37 hT38
  replace hP38 : va_P E.2.1 classes ((E.2.2.2, .inr (10, [.ref (E.2.2.2 + 1), .ref (E.2.2.2 + 3), .ref (E.2.2.2 + 4), .ref (E.2.2.2 + 6), .ref (E.2.2.2 + 8), .ref (E.2.2.2 + 11), .ref (E.2.2.2 + 27), .ref (E.2.2.2 + 42), .ref (E.2.2.2 + 78), .ref (E.2.2.2 + 83), .ref (E.2.2.2 + 95), .ref (E.2.2.2 + 107)])) :: (E.2.2.2 + 3, .inl (E.2.2.1 23, 4, .inr (.inr (.inr (.inr (va_up (fun _ => none) 0 (some (E.2.2.2 + 115)))))))) :: mk E ([1, 2] ++ [4, 5] ++ [6, 7] ++ [8, 9, 10] ++ [11, 12, 13, 14, 15, 16, 17, 18, 19, 20, 21, 22, 23, 24, 25, 26] ++ [27, 28, 29, 30, 31, 32, 33, 34, 35, 36, 37, 38, 39, 40, 41] ++ [42, 43, 44, 45, 46, 47, 48, 49, 50, 51, 52, 53, 54, 55, 56, 57, 58, 59, 60, 61, 62, 63, 64, 65, 66, 67, 68, 69, 70, 71, 72, 73, 74, 75, 76, 77] ++ [78, 79, 80, 81, 82] ++ [83, 84, 85, 86, 87, 88, 89, 90, 91, 92, 93, 94] ++ [95, 96, 97, 98, 99, 100, 101, 102, 103, 104, 105, 106] ++ [107, 108, 109, 110, 111, 112, 113, 114] ++ [115, 116])) H38 := hP38
  replace hD38 : va_D (fun q => E.2.2.2 ≤ q) (((E.2.2.2, .inr (10, [.ref (E.2.2.2 + 1), .ref (E.2.2.2 + 3), .ref (E.2.2.2 + 4), .ref (E.2.2.2 + 6), .ref (E.2.2.2 + 8), .ref (E.2.2.2 + 11), .ref (E.2.2.2 + 27), .ref (E.2.2.2 + 42), .ref (E.2.2.2 + 78), .ref (E.2.2.2 + 83), .ref (E.2.2.2 + 95), .ref (E.2.2.2 + 107)])) :: (E.2.2.2 + 3, .inl (E.2.2.1 23, 4, .inr (.inr (.inr (.inr (va_up (fun _ => none) 0 (some (E.2.2.2 + 115)))))))) :: mk E ([1, 2] ++ [4, 5] ++ [6, 7] ++ [8, 9, 10] ++ [11, 12, 13, 14, 15, 16, 17, 18, 19, 20, 21, 22, 23, 24, 25, 26] ++ [27, 28, 29, 30, 31, 32, 33, 34, 35, 36, 37, 38, 39, 40, 41] ++ [42, 43, 44, 45, 46, 47, 48, 49, 50, 51, 52, 53, 54, 55, 56, 57, 58, 59, 60, 61, 62, 63, 64, 65, 66, 67, 68, 69, 70, 71, 72, 73, 74, 75, 76, 77] ++ [78, 79, 80, 81, 82] ++ [83, 84, 85, 86, 87, 88, 89, 90, 91, 92, 93, 94] ++ [95, 96, 97, 98, 99, 100, 101, 102, 103, 104, 105, 106] ++ [107, 108, 109, 110, 111, 112, 113, 114] ++ [115, 116])) : va_W) := hD38
  replace z38 : H38.size = E.2.2.2 + 117 := z38
  clear hP37 hD37 hS37 z37 hT38 hle38
  refine lv_iinc (k := 0) (lv' := [(1, .int 1), (0, .ref (E.2.2.2))]) hx hb (dk zX10_init 86 rfl) hl rfl (v := 1) (by decide) (by decide) rfl (fun ls hl => ?_)
  refine lv_goto (tgt := 151) hx hb (dk zX10_init 87 rfl) (by decide) ?_
  refine lv_iload_n hx hb (dk zX10_init 71 rfl) rfl (lv_at hl 0 rfl) ?_
  refine lv_iconst hx hb (dk zX10_init 72 rfl) (v := 4) rfl ?_
  refine lv_icmp_ge (tgt := 186) hx hb (dk zX10_init 73 rfl) (by decide) (fun z => absurd z (by decide)) (fun _ => ?_)
  refine lv_aload_n hx hb (dk zX10_init 74 rfl) rfl (lv_at hl 1 rfl) ?_
  refine va_get hx hb (Ts := tbG) hts iG10 hown hK hP38 0 (fs := [.ref (E.2.2.2 + 1), .ref (E.2.2.2 + 3), .ref (E.2.2.2 + 4), .ref (E.2.2.2 + 6), .ref (E.2.2.2 + 8), .ref (E.2.2.2 + 11), .ref (E.2.2.2 + 27), .ref (E.2.2.2 + 42), .ref (E.2.2.2 + 78), .ref (E.2.2.2 + 83), .ref (E.2.2.2 + 95), .ref (E.2.2.2 + 107)]) rfl rfl 1 (by decide) (hts _ wk_f10_18) (fun x h => h) rfl (dk zX10_init 75 rfl) ?_
  refine lv_iload_n hx hb (dk zX10_init 76 rfl) rfl (lv_at hl 0 rfl) ?_
  refine y_new (own := RX10) (C := RX8) (T := TX8) (N := 3) (ci := 8) (index := 16) (fs := [.null, .int 0, .int 0]) hx hb hts iG8 tyX8 tyX8_ok hown (hts _ wk_cl10_16) (hts _ wk_is8) (hts _ wk_in8) hK hP38 hD38 hS38 hA rfl (fun j hj => by
    rcases (show j = 0 ∨ j = 1 ∨ j = 2 by omega) with rfl | rfl | rfl <;> rfl) (Nat.le_of_ble_eq_true rfl) (Nat.le_of_ble_eq_true rfl) z38 (dk zX10_init 77 rfl) (fun H39 z39 hP39 hD39 hS39 o39 => ?_)
  replace z39 : H39.size = E.2.2.2 + 118 := z39
  clear hP38 hD38 hS38 z38 o39
  refine lv_dup hx hb (dk zX10_init 78 rfl) rfl ?_
  refine lv_iload_n hx hb (dk zX10_init 79 rfl) rfl (lv_at hl 0 rfl) ?_
  refine lv_if_ne (tgt := 174) hx hb (dk zX10_init 80 rfl) (by decide) (fun _ => ?_) (fun z => absurd z (by decide))
  refine lv_bipush hx hb (dk zX10_init 83 rfl) (v := 30) rfl ?_
  refine y_initL (as := [.int 30]) (rest := [.ref (E.2.2.2 + 117), .int 1, .ref (E.2.2.2 + 3)]) hx hb hml hown hts hN hK (k_8_117 E) wk_ml10_86 wk_cd8 wk_in8 wk_im8 rfl ⟨by decide, by decide, by show _ = some 1; decide +kernel⟩ ⟨Nat.le_of_ble_eq_true rfl, Nat.le_of_ble_eq_true rfl⟩ hl.1 (Nat.le_of_ble_eq_true rfl) (dk zX10_init 84 rfl) ⟨Nat.le_of_ble_eq_true rfl, Nat.le_of_ble_eq_true rfl⟩ hP39 hD39 hS39 (fun q h => by omega) z39 rfl (fun H40 l40 z40 hP40 hD40 hS40 => ?_)
  rw [mk_app] at hP40 hD40
  replace hP40 : va_P E.2.1 classes ((E.2.2.2, .inr (10, [.ref (E.2.2.2 + 1), .ref (E.2.2.2 + 3), .ref (E.2.2.2 + 4), .ref (E.2.2.2 + 6), .ref (E.2.2.2 + 8), .ref (E.2.2.2 + 11), .ref (E.2.2.2 + 27), .ref (E.2.2.2 + 42), .ref (E.2.2.2 + 78), .ref (E.2.2.2 + 83), .ref (E.2.2.2 + 95), .ref (E.2.2.2 + 107)])) :: (E.2.2.2 + 3, .inl (E.2.2.1 23, 4, .inr (.inr (.inr (.inr (va_up (fun _ => none) 0 (some (E.2.2.2 + 115)))))))) :: mk E ([1, 2] ++ [4, 5] ++ [6, 7] ++ [8, 9, 10] ++ [11, 12, 13, 14, 15, 16, 17, 18, 19, 20, 21, 22, 23, 24, 25, 26] ++ [27, 28, 29, 30, 31, 32, 33, 34, 35, 36, 37, 38, 39, 40, 41] ++ [42, 43, 44, 45, 46, 47, 48, 49, 50, 51, 52, 53, 54, 55, 56, 57, 58, 59, 60, 61, 62, 63, 64, 65, 66, 67, 68, 69, 70, 71, 72, 73, 74, 75, 76, 77] ++ [78, 79, 80, 81, 82] ++ [83, 84, 85, 86, 87, 88, 89, 90, 91, 92, 93, 94] ++ [95, 96, 97, 98, 99, 100, 101, 102, 103, 104, 105, 106] ++ [107, 108, 109, 110, 111, 112, 113, 114] ++ [115, 116] ++ [117, 118])) H40 := hP40
  replace hD40 : va_D (fun q => E.2.2.2 ≤ q) (((E.2.2.2, .inr (10, [.ref (E.2.2.2 + 1), .ref (E.2.2.2 + 3), .ref (E.2.2.2 + 4), .ref (E.2.2.2 + 6), .ref (E.2.2.2 + 8), .ref (E.2.2.2 + 11), .ref (E.2.2.2 + 27), .ref (E.2.2.2 + 42), .ref (E.2.2.2 + 78), .ref (E.2.2.2 + 83), .ref (E.2.2.2 + 95), .ref (E.2.2.2 + 107)])) :: (E.2.2.2 + 3, .inl (E.2.2.1 23, 4, .inr (.inr (.inr (.inr (va_up (fun _ => none) 0 (some (E.2.2.2 + 115)))))))) :: mk E ([1, 2] ++ [4, 5] ++ [6, 7] ++ [8, 9, 10] ++ [11, 12, 13, 14, 15, 16, 17, 18, 19, 20, 21, 22, 23, 24, 25, 26] ++ [27, 28, 29, 30, 31, 32, 33, 34, 35, 36, 37, 38, 39, 40, 41] ++ [42, 43, 44, 45, 46, 47, 48, 49, 50, 51, 52, 53, 54, 55, 56, 57, 58, 59, 60, 61, 62, 63, 64, 65, 66, 67, 68, 69, 70, 71, 72, 73, 74, 75, 76, 77] ++ [78, 79, 80, 81, 82] ++ [83, 84, 85, 86, 87, 88, 89, 90, 91, 92, 93, 94] ++ [95, 96, 97, 98, 99, 100, 101, 102, 103, 104, 105, 106] ++ [107, 108, 109, 110, 111, 112, 113, 114] ++ [115, 116] ++ [117, 118])) : va_W) := hD40
  replace z40 : H40.size = E.2.2.2 + 119 := z40
  clear hP39 hD39 hS39 z39
  have hm41 : (E.2.2.2 + 117, ce E m0 117) ∈ ((E.2.2.2, .inr (10, [.ref (E.2.2.2 + 1), .ref (E.2.2.2 + 3), .ref (E.2.2.2 + 4), .ref (E.2.2.2 + 6), .ref (E.2.2.2 + 8), .ref (E.2.2.2 + 11), .ref (E.2.2.2 + 27), .ref (E.2.2.2 + 42), .ref (E.2.2.2 + 78), .ref (E.2.2.2 + 83), .ref (E.2.2.2 + 95), .ref (E.2.2.2 + 107)])) :: (E.2.2.2 + 3, .inl (E.2.2.1 23, 4, .inr (.inr (.inr (.inr (va_up (fun _ => none) 0 (some (E.2.2.2 + 115)))))))) :: mk E ([1, 2] ++ [4, 5] ++ [6, 7] ++ [8, 9, 10] ++ [11, 12, 13, 14, 15, 16, 17, 18, 19, 20, 21, 22, 23, 24, 25, 26] ++ [27, 28, 29, 30, 31, 32, 33, 34, 35, 36, 37, 38, 39, 40, 41] ++ [42, 43, 44, 45, 46, 47, 48, 49, 50, 51, 52, 53, 54, 55, 56, 57, 58, 59, 60, 61, 62, 63, 64, 65, 66, 67, 68, 69, 70, 71, 72, 73, 74, 75, 76, 77] ++ [78, 79, 80, 81, 82] ++ [83, 84, 85, 86, 87, 88, 89, 90, 91, 92, 93, 94] ++ [95, 96, 97, 98, 99, 100, 101, 102, 103, 104, 105, 106] ++ [107, 108, 109, 110, 111, 112, 113, 114] ++ [115, 116] ++ [117, 118])) := List.mem_cons_of_mem _ (List.mem_cons_of_mem _ (List.mem_map.mpr ⟨117, by decide, rfl⟩))
  rw [ce_obj (E := E) (μ := m0) (o := 117) (ci := 8) rfl (by decide)] at hm41
  obtain ⟨qk41, hq41⟩ := List.getElem?_of_mem hm41
  refine va_astq (r := (RX8, TX8, 3)) hx hb hK hP40 hD40 (y_rf hS40) 1 3 qk41 8 rfl rfl hq41 rfl (by unfold vp_in; decide) (dk zX10_init 85 rfl) (fun H41 l41 hP41 hD41 hT41 => ?_)
  rw [show (1 : Int32).toNatClampNeg = 1 by decide] at hP41 hD41
  clear hm41 hq41
  refine y_size (fun hle41 => ?_)
  have z41 := y_eqz hsz z40 hT41 hle41 rfl
  have hS41 := y_tr hS40 hT41
  replace hP41 : va_P E.2.1 classes ((E.2.2.2, .inr (10, [.ref (E.2.2.2 + 1), .ref (E.2.2.2 + 3), .ref (E.2.2.2 + 4), .ref (E.2.2.2 + 6), .ref (E.2.2.2 + 8), .ref (E.2.2.2 + 11), .ref (E.2.2.2 + 27), .ref (E.2.2.2 + 42), .ref (E.2.2.2 + 78), .ref (E.2.2.2 + 83), .ref (E.2.2.2 + 95), .ref (E.2.2.2 + 107)])) :: (E.2.2.2 + 3, .inl (E.2.2.1 23, 4, .inr (.inr (.inr (.inr (va_up (va_up (fun _ => none) 0 (some (E.2.2.2 + 115))) 1 (some (E.2.2.2 + 117)))))))) :: mk E ([1, 2] ++ [4, 5] ++ [6, 7] ++ [8, 9, 10] ++ [11, 12, 13, 14, 15, 16, 17, 18, 19, 20, 21, 22, 23, 24, 25, 26] ++ [27, 28, 29, 30, 31, 32, 33, 34, 35, 36, 37, 38, 39, 40, 41] ++ [42, 43, 44, 45, 46, 47, 48, 49, 50, 51, 52, 53, 54, 55, 56, 57, 58, 59, 60, 61, 62, 63, 64, 65, 66, 67, 68, 69, 70, 71, 72, 73, 74, 75, 76, 77] ++ [78, 79, 80, 81, 82] ++ [83, 84, 85, 86, 87, 88, 89, 90, 91, 92, 93, 94] ++ [95, 96, 97, 98, 99, 100, 101, 102, 103, 104, 105, 106] ++ [107, 108, 109, 110, 111, 112, 113, 114] ++ [115, 116] ++ [117, 118])) H41 := hP41
  replace hD41 : va_D (fun q => E.2.2.2 ≤ q) (((E.2.2.2, .inr (10, [.ref (E.2.2.2 + 1), .ref (E.2.2.2 + 3), .ref (E.2.2.2 + 4), .ref (E.2.2.2 + 6), .ref (E.2.2.2 + 8), .ref (E.2.2.2 + 11), .ref (E.2.2.2 + 27), .ref (E.2.2.2 + 42), .ref (E.2.2.2 + 78), .ref (E.2.2.2 + 83), .ref (E.2.2.2 + 95), .ref (E.2.2.2 + 107)])) :: (E.2.2.2 + 3, .inl (E.2.2.1 23, 4, .inr (.inr (.inr (.inr (va_up (va_up (fun _ => none) 0 (some (E.2.2.2 + 115))) 1 (some (E.2.2.2 + 117)))))))) :: mk E ([1, 2] ++ [4, 5] ++ [6, 7] ++ [8, 9, 10] ++ [11, 12, 13, 14, 15, 16, 17, 18, 19, 20, 21, 22, 23, 24, 25, 26] ++ [27, 28, 29, 30, 31, 32, 33, 34, 35, 36, 37, 38, 39, 40, 41] ++ [42, 43, 44, 45, 46, 47, 48, 49, 50, 51, 52, 53, 54, 55, 56, 57, 58, 59, 60, 61, 62, 63, 64, 65, 66, 67, 68, 69, 70, 71, 72, 73, 74, 75, 76, 77] ++ [78, 79, 80, 81, 82] ++ [83, 84, 85, 86, 87, 88, 89, 90, 91, 92, 93, 94] ++ [95, 96, 97, 98, 99, 100, 101, 102, 103, 104, 105, 106] ++ [107, 108, 109, 110, 111, 112, 113, 114] ++ [115, 116] ++ [117, 118])) : va_W) := hD41
  replace z41 : H41.size = E.2.2.2 + 119 := z41
  clear hP40 hD40 hS40 z40 hT41 hle41
  refine lv_iinc (k := 0) (lv' := [(1, .int 2), (0, .ref (E.2.2.2))]) hx hb (dk zX10_init 86 rfl) hl rfl (v := 2) (by decide) (by decide) rfl (fun ls hl => ?_)
  refine lv_goto (tgt := 151) hx hb (dk zX10_init 87 rfl) (by decide) ?_
  refine lv_iload_n hx hb (dk zX10_init 71 rfl) rfl (lv_at hl 0 rfl) ?_
  refine lv_iconst hx hb (dk zX10_init 72 rfl) (v := 4) rfl ?_
  refine lv_icmp_ge (tgt := 186) hx hb (dk zX10_init 73 rfl) (by decide) (fun z => absurd z (by decide)) (fun _ => ?_)
  refine lv_aload_n hx hb (dk zX10_init 74 rfl) rfl (lv_at hl 1 rfl) ?_
  refine va_get hx hb (Ts := tbG) hts iG10 hown hK hP41 0 (fs := [.ref (E.2.2.2 + 1), .ref (E.2.2.2 + 3), .ref (E.2.2.2 + 4), .ref (E.2.2.2 + 6), .ref (E.2.2.2 + 8), .ref (E.2.2.2 + 11), .ref (E.2.2.2 + 27), .ref (E.2.2.2 + 42), .ref (E.2.2.2 + 78), .ref (E.2.2.2 + 83), .ref (E.2.2.2 + 95), .ref (E.2.2.2 + 107)]) rfl rfl 1 (by decide) (hts _ wk_f10_18) (fun x h => h) rfl (dk zX10_init 75 rfl) ?_
  refine lv_iload_n hx hb (dk zX10_init 76 rfl) rfl (lv_at hl 0 rfl) ?_
  refine y_new (own := RX10) (C := RX8) (T := TX8) (N := 3) (ci := 8) (index := 16) (fs := [.null, .int 0, .int 0]) hx hb hts iG8 tyX8 tyX8_ok hown (hts _ wk_cl10_16) (hts _ wk_is8) (hts _ wk_in8) hK hP41 hD41 hS41 hA rfl (fun j hj => by
    rcases (show j = 0 ∨ j = 1 ∨ j = 2 by omega) with rfl | rfl | rfl <;> rfl) (Nat.le_of_ble_eq_true rfl) (Nat.le_of_ble_eq_true rfl) z41 (dk zX10_init 77 rfl) (fun H42 z42 hP42 hD42 hS42 o42 => ?_)
  replace z42 : H42.size = E.2.2.2 + 120 := z42
  clear hP41 hD41 hS41 z41 o42
  refine lv_dup hx hb (dk zX10_init 78 rfl) rfl ?_
  refine lv_iload_n hx hb (dk zX10_init 79 rfl) rfl (lv_at hl 0 rfl) ?_
  refine lv_if_ne (tgt := 174) hx hb (dk zX10_init 80 rfl) (by decide) (fun _ => ?_) (fun z => absurd z (by decide))
  refine lv_bipush hx hb (dk zX10_init 83 rfl) (v := 30) rfl ?_
  refine y_initL (as := [.int 30]) (rest := [.ref (E.2.2.2 + 119), .int 2, .ref (E.2.2.2 + 3)]) hx hb hml hown hts hN hK (k_8_119 E) wk_ml10_86 wk_cd8 wk_in8 wk_im8 rfl ⟨by decide, by decide, by show _ = some 1; decide +kernel⟩ ⟨Nat.le_of_ble_eq_true rfl, Nat.le_of_ble_eq_true rfl⟩ hl.1 (Nat.le_of_ble_eq_true rfl) (dk zX10_init 84 rfl) ⟨Nat.le_of_ble_eq_true rfl, Nat.le_of_ble_eq_true rfl⟩ hP42 hD42 hS42 (fun q h => by omega) z42 rfl (fun H43 l43 z43 hP43 hD43 hS43 => ?_)
  rw [mk_app] at hP43 hD43
  replace hP43 : va_P E.2.1 classes ((E.2.2.2, .inr (10, [.ref (E.2.2.2 + 1), .ref (E.2.2.2 + 3), .ref (E.2.2.2 + 4), .ref (E.2.2.2 + 6), .ref (E.2.2.2 + 8), .ref (E.2.2.2 + 11), .ref (E.2.2.2 + 27), .ref (E.2.2.2 + 42), .ref (E.2.2.2 + 78), .ref (E.2.2.2 + 83), .ref (E.2.2.2 + 95), .ref (E.2.2.2 + 107)])) :: (E.2.2.2 + 3, .inl (E.2.2.1 23, 4, .inr (.inr (.inr (.inr (va_up (va_up (fun _ => none) 0 (some (E.2.2.2 + 115))) 1 (some (E.2.2.2 + 117)))))))) :: mk E ([1, 2] ++ [4, 5] ++ [6, 7] ++ [8, 9, 10] ++ [11, 12, 13, 14, 15, 16, 17, 18, 19, 20, 21, 22, 23, 24, 25, 26] ++ [27, 28, 29, 30, 31, 32, 33, 34, 35, 36, 37, 38, 39, 40, 41] ++ [42, 43, 44, 45, 46, 47, 48, 49, 50, 51, 52, 53, 54, 55, 56, 57, 58, 59, 60, 61, 62, 63, 64, 65, 66, 67, 68, 69, 70, 71, 72, 73, 74, 75, 76, 77] ++ [78, 79, 80, 81, 82] ++ [83, 84, 85, 86, 87, 88, 89, 90, 91, 92, 93, 94] ++ [95, 96, 97, 98, 99, 100, 101, 102, 103, 104, 105, 106] ++ [107, 108, 109, 110, 111, 112, 113, 114] ++ [115, 116] ++ [117, 118] ++ [119, 120])) H43 := hP43
  replace hD43 : va_D (fun q => E.2.2.2 ≤ q) (((E.2.2.2, .inr (10, [.ref (E.2.2.2 + 1), .ref (E.2.2.2 + 3), .ref (E.2.2.2 + 4), .ref (E.2.2.2 + 6), .ref (E.2.2.2 + 8), .ref (E.2.2.2 + 11), .ref (E.2.2.2 + 27), .ref (E.2.2.2 + 42), .ref (E.2.2.2 + 78), .ref (E.2.2.2 + 83), .ref (E.2.2.2 + 95), .ref (E.2.2.2 + 107)])) :: (E.2.2.2 + 3, .inl (E.2.2.1 23, 4, .inr (.inr (.inr (.inr (va_up (va_up (fun _ => none) 0 (some (E.2.2.2 + 115))) 1 (some (E.2.2.2 + 117)))))))) :: mk E ([1, 2] ++ [4, 5] ++ [6, 7] ++ [8, 9, 10] ++ [11, 12, 13, 14, 15, 16, 17, 18, 19, 20, 21, 22, 23, 24, 25, 26] ++ [27, 28, 29, 30, 31, 32, 33, 34, 35, 36, 37, 38, 39, 40, 41] ++ [42, 43, 44, 45, 46, 47, 48, 49, 50, 51, 52, 53, 54, 55, 56, 57, 58, 59, 60, 61, 62, 63, 64, 65, 66, 67, 68, 69, 70, 71, 72, 73, 74, 75, 76, 77] ++ [78, 79, 80, 81, 82] ++ [83, 84, 85, 86, 87, 88, 89, 90, 91, 92, 93, 94] ++ [95, 96, 97, 98, 99, 100, 101, 102, 103, 104, 105, 106] ++ [107, 108, 109, 110, 111, 112, 113, 114] ++ [115, 116] ++ [117, 118] ++ [119, 120])) : va_W) := hD43
  replace z43 : H43.size = E.2.2.2 + 121 := z43
  clear hP42 hD42 hS42 z42
  have hm44 : (E.2.2.2 + 119, ce E m0 119) ∈ ((E.2.2.2, .inr (10, [.ref (E.2.2.2 + 1), .ref (E.2.2.2 + 3), .ref (E.2.2.2 + 4), .ref (E.2.2.2 + 6), .ref (E.2.2.2 + 8), .ref (E.2.2.2 + 11), .ref (E.2.2.2 + 27), .ref (E.2.2.2 + 42), .ref (E.2.2.2 + 78), .ref (E.2.2.2 + 83), .ref (E.2.2.2 + 95), .ref (E.2.2.2 + 107)])) :: (E.2.2.2 + 3, .inl (E.2.2.1 23, 4, .inr (.inr (.inr (.inr (va_up (va_up (fun _ => none) 0 (some (E.2.2.2 + 115))) 1 (some (E.2.2.2 + 117)))))))) :: mk E ([1, 2] ++ [4, 5] ++ [6, 7] ++ [8, 9, 10] ++ [11, 12, 13, 14, 15, 16, 17, 18, 19, 20, 21, 22, 23, 24, 25, 26] ++ [27, 28, 29, 30, 31, 32, 33, 34, 35, 36, 37, 38, 39, 40, 41] ++ [42, 43, 44, 45, 46, 47, 48, 49, 50, 51, 52, 53, 54, 55, 56, 57, 58, 59, 60, 61, 62, 63, 64, 65, 66, 67, 68, 69, 70, 71, 72, 73, 74, 75, 76, 77] ++ [78, 79, 80, 81, 82] ++ [83, 84, 85, 86, 87, 88, 89, 90, 91, 92, 93, 94] ++ [95, 96, 97, 98, 99, 100, 101, 102, 103, 104, 105, 106] ++ [107, 108, 109, 110, 111, 112, 113, 114] ++ [115, 116] ++ [117, 118] ++ [119, 120])) := List.mem_cons_of_mem _ (List.mem_cons_of_mem _ (List.mem_map.mpr ⟨119, by decide, rfl⟩))
  rw [ce_obj (E := E) (μ := m0) (o := 119) (ci := 8) rfl (by decide)] at hm44
  obtain ⟨qk44, hq44⟩ := List.getElem?_of_mem hm44
  refine va_astq (r := (RX8, TX8, 3)) hx hb hK hP43 hD43 (y_rf hS43) 1 3 qk44 8 rfl rfl hq44 rfl (by unfold vp_in; decide) (dk zX10_init 85 rfl) (fun H44 l44 hP44 hD44 hT44 => ?_)
  rw [show (2 : Int32).toNatClampNeg = 2 by decide] at hP44 hD44
  clear hm44 hq44
  refine y_size (fun hle44 => ?_)
  have z44 := y_eqz hsz z43 hT44 hle44 rfl
  have hS44 := y_tr hS43 hT44
  replace hP44 : va_P E.2.1 classes ((E.2.2.2, .inr (10, [.ref (E.2.2.2 + 1), .ref (E.2.2.2 + 3), .ref (E.2.2.2 + 4), .ref (E.2.2.2 + 6), .ref (E.2.2.2 + 8), .ref (E.2.2.2 + 11), .ref (E.2.2.2 + 27), .ref (E.2.2.2 + 42), .ref (E.2.2.2 + 78), .ref (E.2.2.2 + 83), .ref (E.2.2.2 + 95), .ref (E.2.2.2 + 107)])) :: (E.2.2.2 + 3, .inl (E.2.2.1 23, 4, .inr (.inr (.inr (.inr (va_up (va_up (va_up (fun _ => none) 0 (some (E.2.2.2 + 115))) 1 (some (E.2.2.2 + 117))) 2 (some (E.2.2.2 + 119)))))))) :: mk E ([1, 2] ++ [4, 5] ++ [6, 7] ++ [8, 9, 10] ++ [11, 12, 13, 14, 15, 16, 17, 18, 19, 20, 21, 22, 23, 24, 25, 26] ++ [27, 28, 29, 30, 31, 32, 33, 34, 35, 36, 37, 38, 39, 40, 41] ++ [42, 43, 44, 45, 46, 47, 48, 49, 50, 51, 52, 53, 54, 55, 56, 57, 58, 59, 60, 61, 62, 63, 64, 65, 66, 67, 68, 69, 70, 71, 72, 73, 74, 75, 76, 77] ++ [78, 79, 80, 81, 82] ++ [83, 84, 85, 86, 87, 88, 89, 90, 91, 92, 93, 94] ++ [95, 96, 97, 98, 99, 100, 101, 102, 103, 104, 105, 106] ++ [107, 108, 109, 110, 111, 112, 113, 114] ++ [115, 116] ++ [117, 118] ++ [119, 120])) H44 := hP44
  replace hD44 : va_D (fun q => E.2.2.2 ≤ q) (((E.2.2.2, .inr (10, [.ref (E.2.2.2 + 1), .ref (E.2.2.2 + 3), .ref (E.2.2.2 + 4), .ref (E.2.2.2 + 6), .ref (E.2.2.2 + 8), .ref (E.2.2.2 + 11), .ref (E.2.2.2 + 27), .ref (E.2.2.2 + 42), .ref (E.2.2.2 + 78), .ref (E.2.2.2 + 83), .ref (E.2.2.2 + 95), .ref (E.2.2.2 + 107)])) :: (E.2.2.2 + 3, .inl (E.2.2.1 23, 4, .inr (.inr (.inr (.inr (va_up (va_up (va_up (fun _ => none) 0 (some (E.2.2.2 + 115))) 1 (some (E.2.2.2 + 117))) 2 (some (E.2.2.2 + 119)))))))) :: mk E ([1, 2] ++ [4, 5] ++ [6, 7] ++ [8, 9, 10] ++ [11, 12, 13, 14, 15, 16, 17, 18, 19, 20, 21, 22, 23, 24, 25, 26] ++ [27, 28, 29, 30, 31, 32, 33, 34, 35, 36, 37, 38, 39, 40, 41] ++ [42, 43, 44, 45, 46, 47, 48, 49, 50, 51, 52, 53, 54, 55, 56, 57, 58, 59, 60, 61, 62, 63, 64, 65, 66, 67, 68, 69, 70, 71, 72, 73, 74, 75, 76, 77] ++ [78, 79, 80, 81, 82] ++ [83, 84, 85, 86, 87, 88, 89, 90, 91, 92, 93, 94] ++ [95, 96, 97, 98, 99, 100, 101, 102, 103, 104, 105, 106] ++ [107, 108, 109, 110, 111, 112, 113, 114] ++ [115, 116] ++ [117, 118] ++ [119, 120])) : va_W) := hD44
  replace z44 : H44.size = E.2.2.2 + 121 := z44
  clear hP43 hD43 hS43 z43 hT44 hle44
  refine lv_iinc (k := 0) (lv' := [(1, .int 3), (0, .ref (E.2.2.2))]) hx hb (dk zX10_init 86 rfl) hl rfl (v := 3) (by decide) (by decide) rfl (fun ls hl => ?_)
  refine lv_goto (tgt := 151) hx hb (dk zX10_init 87 rfl) (by decide) ?_
  refine lv_iload_n hx hb (dk zX10_init 71 rfl) rfl (lv_at hl 0 rfl) ?_
  refine lv_iconst hx hb (dk zX10_init 72 rfl) (v := 4) rfl ?_
  refine lv_icmp_ge (tgt := 186) hx hb (dk zX10_init 73 rfl) (by decide) (fun z => absurd z (by decide)) (fun _ => ?_)
  refine lv_aload_n hx hb (dk zX10_init 74 rfl) rfl (lv_at hl 1 rfl) ?_
  refine va_get hx hb (Ts := tbG) hts iG10 hown hK hP44 0 (fs := [.ref (E.2.2.2 + 1), .ref (E.2.2.2 + 3), .ref (E.2.2.2 + 4), .ref (E.2.2.2 + 6), .ref (E.2.2.2 + 8), .ref (E.2.2.2 + 11), .ref (E.2.2.2 + 27), .ref (E.2.2.2 + 42), .ref (E.2.2.2 + 78), .ref (E.2.2.2 + 83), .ref (E.2.2.2 + 95), .ref (E.2.2.2 + 107)]) rfl rfl 1 (by decide) (hts _ wk_f10_18) (fun x h => h) rfl (dk zX10_init 75 rfl) ?_
  refine lv_iload_n hx hb (dk zX10_init 76 rfl) rfl (lv_at hl 0 rfl) ?_
  refine y_new (own := RX10) (C := RX8) (T := TX8) (N := 3) (ci := 8) (index := 16) (fs := [.null, .int 0, .int 0]) hx hb hts iG8 tyX8 tyX8_ok hown (hts _ wk_cl10_16) (hts _ wk_is8) (hts _ wk_in8) hK hP44 hD44 hS44 hA rfl (fun j hj => by
    rcases (show j = 0 ∨ j = 1 ∨ j = 2 by omega) with rfl | rfl | rfl <;> rfl) (Nat.le_of_ble_eq_true rfl) (Nat.le_of_ble_eq_true rfl) z44 (dk zX10_init 77 rfl) (fun H45 z45 hP45 hD45 hS45 o45 => ?_)
  replace z45 : H45.size = E.2.2.2 + 122 := z45
  clear hP44 hD44 hS44 z44 o45
  refine lv_dup hx hb (dk zX10_init 78 rfl) rfl ?_
  refine lv_iload_n hx hb (dk zX10_init 79 rfl) rfl (lv_at hl 0 rfl) ?_
  refine lv_if_ne (tgt := 174) hx hb (dk zX10_init 80 rfl) (by decide) (fun _ => ?_) (fun z => absurd z (by decide))
  refine lv_bipush hx hb (dk zX10_init 83 rfl) (v := 30) rfl ?_
  refine y_initL (as := [.int 30]) (rest := [.ref (E.2.2.2 + 121), .int 3, .ref (E.2.2.2 + 3)]) hx hb hml hown hts hN hK (k_8_121 E) wk_ml10_86 wk_cd8 wk_in8 wk_im8 rfl ⟨by decide, by decide, by show _ = some 1; decide +kernel⟩ ⟨Nat.le_of_ble_eq_true rfl, Nat.le_of_ble_eq_true rfl⟩ hl.1 (Nat.le_of_ble_eq_true rfl) (dk zX10_init 84 rfl) ⟨Nat.le_of_ble_eq_true rfl, Nat.le_of_ble_eq_true rfl⟩ hP45 hD45 hS45 (fun q h => by omega) z45 rfl (fun H46 l46 z46 hP46 hD46 hS46 => ?_)
  rw [mk_app] at hP46 hD46
  replace hP46 : va_P E.2.1 classes ((E.2.2.2, .inr (10, [.ref (E.2.2.2 + 1), .ref (E.2.2.2 + 3), .ref (E.2.2.2 + 4), .ref (E.2.2.2 + 6), .ref (E.2.2.2 + 8), .ref (E.2.2.2 + 11), .ref (E.2.2.2 + 27), .ref (E.2.2.2 + 42), .ref (E.2.2.2 + 78), .ref (E.2.2.2 + 83), .ref (E.2.2.2 + 95), .ref (E.2.2.2 + 107)])) :: (E.2.2.2 + 3, .inl (E.2.2.1 23, 4, .inr (.inr (.inr (.inr (va_up (va_up (va_up (fun _ => none) 0 (some (E.2.2.2 + 115))) 1 (some (E.2.2.2 + 117))) 2 (some (E.2.2.2 + 119)))))))) :: mk E ([1, 2] ++ [4, 5] ++ [6, 7] ++ [8, 9, 10] ++ [11, 12, 13, 14, 15, 16, 17, 18, 19, 20, 21, 22, 23, 24, 25, 26] ++ [27, 28, 29, 30, 31, 32, 33, 34, 35, 36, 37, 38, 39, 40, 41] ++ [42, 43, 44, 45, 46, 47, 48, 49, 50, 51, 52, 53, 54, 55, 56, 57, 58, 59, 60, 61, 62, 63, 64, 65, 66, 67, 68, 69, 70, 71, 72, 73, 74, 75, 76, 77] ++ [78, 79, 80, 81, 82] ++ [83, 84, 85, 86, 87, 88, 89, 90, 91, 92, 93, 94] ++ [95, 96, 97, 98, 99, 100, 101, 102, 103, 104, 105, 106] ++ [107, 108, 109, 110, 111, 112, 113, 114] ++ [115, 116] ++ [117, 118] ++ [119, 120] ++ [121, 122])) H46 := hP46
  replace hD46 : va_D (fun q => E.2.2.2 ≤ q) (((E.2.2.2, .inr (10, [.ref (E.2.2.2 + 1), .ref (E.2.2.2 + 3), .ref (E.2.2.2 + 4), .ref (E.2.2.2 + 6), .ref (E.2.2.2 + 8), .ref (E.2.2.2 + 11), .ref (E.2.2.2 + 27), .ref (E.2.2.2 + 42), .ref (E.2.2.2 + 78), .ref (E.2.2.2 + 83), .ref (E.2.2.2 + 95), .ref (E.2.2.2 + 107)])) :: (E.2.2.2 + 3, .inl (E.2.2.1 23, 4, .inr (.inr (.inr (.inr (va_up (va_up (va_up (fun _ => none) 0 (some (E.2.2.2 + 115))) 1 (some (E.2.2.2 + 117))) 2 (some (E.2.2.2 + 119)))))))) :: mk E ([1, 2] ++ [4, 5] ++ [6, 7] ++ [8, 9, 10] ++ [11, 12, 13, 14, 15, 16, 17, 18, 19, 20, 21, 22, 23, 24, 25, 26] ++ [27, 28, 29, 30, 31, 32, 33, 34, 35, 36, 37, 38, 39, 40, 41] ++ [42, 43, 44, 45, 46, 47, 48, 49, 50, 51, 52, 53, 54, 55, 56, 57, 58, 59, 60, 61, 62, 63, 64, 65, 66, 67, 68, 69, 70, 71, 72, 73, 74, 75, 76, 77] ++ [78, 79, 80, 81, 82] ++ [83, 84, 85, 86, 87, 88, 89, 90, 91, 92, 93, 94] ++ [95, 96, 97, 98, 99, 100, 101, 102, 103, 104, 105, 106] ++ [107, 108, 109, 110, 111, 112, 113, 114] ++ [115, 116] ++ [117, 118] ++ [119, 120] ++ [121, 122])) : va_W) := hD46
  replace z46 : H46.size = E.2.2.2 + 123 := z46
  clear hP45 hD45 hS45 z45
  have hm47 : (E.2.2.2 + 121, ce E m0 121) ∈ ((E.2.2.2, .inr (10, [.ref (E.2.2.2 + 1), .ref (E.2.2.2 + 3), .ref (E.2.2.2 + 4), .ref (E.2.2.2 + 6), .ref (E.2.2.2 + 8), .ref (E.2.2.2 + 11), .ref (E.2.2.2 + 27), .ref (E.2.2.2 + 42), .ref (E.2.2.2 + 78), .ref (E.2.2.2 + 83), .ref (E.2.2.2 + 95), .ref (E.2.2.2 + 107)])) :: (E.2.2.2 + 3, .inl (E.2.2.1 23, 4, .inr (.inr (.inr (.inr (va_up (va_up (va_up (fun _ => none) 0 (some (E.2.2.2 + 115))) 1 (some (E.2.2.2 + 117))) 2 (some (E.2.2.2 + 119)))))))) :: mk E ([1, 2] ++ [4, 5] ++ [6, 7] ++ [8, 9, 10] ++ [11, 12, 13, 14, 15, 16, 17, 18, 19, 20, 21, 22, 23, 24, 25, 26] ++ [27, 28, 29, 30, 31, 32, 33, 34, 35, 36, 37, 38, 39, 40, 41] ++ [42, 43, 44, 45, 46, 47, 48, 49, 50, 51, 52, 53, 54, 55, 56, 57, 58, 59, 60, 61, 62, 63, 64, 65, 66, 67, 68, 69, 70, 71, 72, 73, 74, 75, 76, 77] ++ [78, 79, 80, 81, 82] ++ [83, 84, 85, 86, 87, 88, 89, 90, 91, 92, 93, 94] ++ [95, 96, 97, 98, 99, 100, 101, 102, 103, 104, 105, 106] ++ [107, 108, 109, 110, 111, 112, 113, 114] ++ [115, 116] ++ [117, 118] ++ [119, 120] ++ [121, 122])) := List.mem_cons_of_mem _ (List.mem_cons_of_mem _ (List.mem_map.mpr ⟨121, by decide, rfl⟩))
  rw [ce_obj (E := E) (μ := m0) (o := 121) (ci := 8) rfl (by decide)] at hm47
  obtain ⟨qk47, hq47⟩ := List.getElem?_of_mem hm47
  refine va_astq (r := (RX8, TX8, 3)) hx hb hK hP46 hD46 (y_rf hS46) 1 3 qk47 8 rfl rfl hq47 rfl (by unfold vp_in; decide) (dk zX10_init 85 rfl) (fun H47 l47 hP47 hD47 hT47 => ?_)
  rw [show (3 : Int32).toNatClampNeg = 3 by decide] at hP47 hD47
  clear hm47 hq47
  refine y_size (fun hle47 => ?_)
  have z47 := y_eqz hsz z46 hT47 hle47 rfl
  have hS47 := y_tr hS46 hT47
  replace hP47 : va_P E.2.1 classes ((E.2.2.2, .inr (10, [.ref (E.2.2.2 + 1), .ref (E.2.2.2 + 3), .ref (E.2.2.2 + 4), .ref (E.2.2.2 + 6), .ref (E.2.2.2 + 8), .ref (E.2.2.2 + 11), .ref (E.2.2.2 + 27), .ref (E.2.2.2 + 42), .ref (E.2.2.2 + 78), .ref (E.2.2.2 + 83), .ref (E.2.2.2 + 95), .ref (E.2.2.2 + 107)])) :: (E.2.2.2 + 3, .inl (E.2.2.1 23, 4, .inr (.inr (.inr (.inr (va_up (va_up (va_up (va_up (fun _ => none) 0 (some (E.2.2.2 + 115))) 1 (some (E.2.2.2 + 117))) 2 (some (E.2.2.2 + 119))) 3 (some (E.2.2.2 + 121)))))))) :: mk E ([1, 2] ++ [4, 5] ++ [6, 7] ++ [8, 9, 10] ++ [11, 12, 13, 14, 15, 16, 17, 18, 19, 20, 21, 22, 23, 24, 25, 26] ++ [27, 28, 29, 30, 31, 32, 33, 34, 35, 36, 37, 38, 39, 40, 41] ++ [42, 43, 44, 45, 46, 47, 48, 49, 50, 51, 52, 53, 54, 55, 56, 57, 58, 59, 60, 61, 62, 63, 64, 65, 66, 67, 68, 69, 70, 71, 72, 73, 74, 75, 76, 77] ++ [78, 79, 80, 81, 82] ++ [83, 84, 85, 86, 87, 88, 89, 90, 91, 92, 93, 94] ++ [95, 96, 97, 98, 99, 100, 101, 102, 103, 104, 105, 106] ++ [107, 108, 109, 110, 111, 112, 113, 114] ++ [115, 116] ++ [117, 118] ++ [119, 120] ++ [121, 122])) H47 := hP47
  replace hD47 : va_D (fun q => E.2.2.2 ≤ q) (((E.2.2.2, .inr (10, [.ref (E.2.2.2 + 1), .ref (E.2.2.2 + 3), .ref (E.2.2.2 + 4), .ref (E.2.2.2 + 6), .ref (E.2.2.2 + 8), .ref (E.2.2.2 + 11), .ref (E.2.2.2 + 27), .ref (E.2.2.2 + 42), .ref (E.2.2.2 + 78), .ref (E.2.2.2 + 83), .ref (E.2.2.2 + 95), .ref (E.2.2.2 + 107)])) :: (E.2.2.2 + 3, .inl (E.2.2.1 23, 4, .inr (.inr (.inr (.inr (va_up (va_up (va_up (va_up (fun _ => none) 0 (some (E.2.2.2 + 115))) 1 (some (E.2.2.2 + 117))) 2 (some (E.2.2.2 + 119))) 3 (some (E.2.2.2 + 121)))))))) :: mk E ([1, 2] ++ [4, 5] ++ [6, 7] ++ [8, 9, 10] ++ [11, 12, 13, 14, 15, 16, 17, 18, 19, 20, 21, 22, 23, 24, 25, 26] ++ [27, 28, 29, 30, 31, 32, 33, 34, 35, 36, 37, 38, 39, 40, 41] ++ [42, 43, 44, 45, 46, 47, 48, 49, 50, 51, 52, 53, 54, 55, 56, 57, 58, 59, 60, 61, 62, 63, 64, 65, 66, 67, 68, 69, 70, 71, 72, 73, 74, 75, 76, 77] ++ [78, 79, 80, 81, 82] ++ [83, 84, 85, 86, 87, 88, 89, 90, 91, 92, 93, 94] ++ [95, 96, 97, 98, 99, 100, 101, 102, 103, 104, 105, 106] ++ [107, 108, 109, 110, 111, 112, 113, 114] ++ [115, 116] ++ [117, 118] ++ [119, 120] ++ [121, 122])) : va_W) := hD47
  replace z47 : H47.size = E.2.2.2 + 123 := z47
  clear hP46 hD46 hS46 z46 hT47 hle47
  refine lv_iinc (k := 0) (lv' := [(1, .int 4), (0, .ref (E.2.2.2))]) hx hb (dk zX10_init 86 rfl) hl rfl (v := 4) (by decide) (by decide) rfl (fun ls hl => ?_)
  refine lv_goto (tgt := 151) hx hb (dk zX10_init 87 rfl) (by decide) ?_
  refine lv_iload_n hx hb (dk zX10_init 71 rfl) rfl (lv_at hl 0 rfl) ?_
  refine lv_iconst hx hb (dk zX10_init 72 rfl) (v := 4) rfl ?_
  refine lv_icmp_ge (tgt := 186) hx hb (dk zX10_init 73 rfl) (by decide) (fun _ => ?_) (fun z => absurd (by decide) z)
  have hP9 : va_P E.2.1 classes (mk E (List.range 123)) H47 := y_all E hP47
  exact W.vret hx hb hr (fun t ht hW => ⟨⟨(), rfl, trivial, by rw [ht]; exact z47, by rw [ht]; exact hP9⟩, hS47.F ht⟩) hS47.2.2 (dk zX10_init 88 rfl)
end CN10
