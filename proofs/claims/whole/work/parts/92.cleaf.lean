theorem n_X5 (E : EV) (b : Nat) : Cn E MX5_init b [] 5 [.null, .int 0] 1 60 [(b, .inr (5, [.ref (b + 1), .int 0])), (b + 1, .inl (E.2.2.1 20, 60, .inl (fun _ => 0)))] := Cn.of (c_X5 (E.1, E.2.1, E.2.2.1, b) 0)
theorem n_X3 (E : EV) (b : Nat) : Cn E MX3_init b [] 3 [.null, .int 0, .int 0, .int 0, .int 0, .int 0] 1 18 [(b, .inr (3, [.ref (b + 1), .int 0, .int 0, .int 0, .int 11, .int (-1)])), (b + 1, .inl (E.2.2.1 20, 18, .inl (fun _ => 0)))] := Cn.of (c_X3 (E.1, E.2.1, E.2.2.1, b) 0)
theorem n_X4 (E : EV) (b : Nat) : Cn E MX4_init b [] 4 [.null, .null, .null, .null, .int 0] 4 300 [(b, .inr (4, [.ref (b + 1), .ref (b + 2), .ref (b + 3), .ref (b + 4), .int 0])), (b + 1, .inl (E.2.2.1 20, 132, .inl (fun _ => 0))), (b + 2, .inl (E.2.2.1 20, 12, .inl (fun _ => 0))), (b + 3, .inl (E.2.2.1 20, 12, .inl (fun _ => 0))), (b + 4, .inl (E.2.2.1 20, 144, .inl (fun _ => 0)))] := Cn.of (c_X4 (E.1, E.2.1, E.2.2.1, b) 0)
theorem n_X8 (E : EV) (b : Nat) (a : Int32) : Cn E MX8_init b [.int a] 8 [.null, .int 0, .int 0] 1 50 [(b, .inr (8, [.ref (b + 1), .int (if 50 < a then 50 else a), .int 0])), (b + 1, .inl (E.2.2.1 20, 50, .inl (fun _ => 0)))] := Cn.of (c_X8 (E.1, E.2.1, E.2.2.1, b) 0 a)
theorem wk_al : Cond.arrayClass .long ∈ tbG := tb_at 136 (by decide +kernel) (by decide +kernel)
theorem wk_ab : Cond.arrayClass .boolean ∈ tbG := tb_at 1130 (by decide +kernel) (by decide +kernel)
section CN0
def tX0_init : List (Nat × Instr × Nat) := [(0, .aload_n 0, 1), (1, .invokespecial 3, 3), (4, .aload_n 0, 1), (5, .bipush 8, 2), (7, .bipush 8, 2), (9, .multianewarray 9 2, 4), (13, .putfield 11, 3), (16, .aload_n 0, 1), (17, .bipush 8, 2), (19, .newarray .int, 2), (21, .putfield 16, 3), (24, .aload_n 0, 1), (25, .bipush 8, 2), (27, .newarray .int, 2), (29, .putfield 20, 3), (32, .return_, 1)]
theorem zX0_init : (tX0_init.all fun q => decide (decode cX0_init q.1 = .ok q.2)) = true := by decide +kernel
abbrev MX0_init : MT := (yX0_init, cX0_init, 1, none, 1, 12)
theorem wk_obj0 : Cond.methodLink RX0 3 objectInit ∈ tbG := tb_at 104 (by decide +kernel) (by decide +kernel)
theorem wk_cl0_9 : Cond.classLink RX0 9 ("[" ++ (FieldType.array .int).toString) ∈ tbG := tb_at 105 (by decide +kernel) (by decide +kernel)
theorem wk_f0_11 : Cond.fieldLink RX0 11 RX0 (TX0 0).2.1 (TX0 0).2.2.1 ∈ tbG := tb_at 107 (by decide +kernel) (by decide +kernel)
theorem wk_f0_16 : Cond.fieldLink RX0 16 RX0 (TX0 1).2.1 (TX0 1).2.2.1 ∈ tbG := tb_at 108 (by decide +kernel) (by decide +kernel)
theorem wk_f0_20 : Cond.fieldLink RX0 20 RX0 (TX0 2).2.1 (TX0 2).2.2.1 ∈ tbG := tb_at 109 (by decide +kernel) (by decide +kernel)
set_option maxHeartbeats 4000000 in
set_option maxRecDepth 100000 in
theorem n_X0 (E : EV) (b : Nat) : Cn E MX0_init b [] 0 [.null, .null, .null] 11 88 [(b, .inr (0, [.ref (b + 1), .ref (b + 10), .ref (b + 11)])), (b + 1, .inl (E.2.2.1 24, 8, .inr (.inr (.inr (.inr (fun j => some (b + 1 + 1 + j))))))), (b + 2, .inl (E.2.2.1 20, 8, .inl (fun _ => 0))), (b + 3, .inl (E.2.2.1 20, 8, .inl (fun _ => 0))), (b + 4, .inl (E.2.2.1 20, 8, .inl (fun _ => 0))), (b + 5, .inl (E.2.2.1 20, 8, .inl (fun _ => 0))), (b + 6, .inl (E.2.2.1 20, 8, .inl (fun _ => 0))), (b + 7, .inl (E.2.2.1 20, 8, .inl (fun _ => 0))), (b + 8, .inl (E.2.2.1 20, 8, .inl (fun _ => 0))), (b + 9, .inl (E.2.2.1 20, 8, .inl (fun _ => 0))), (b + 10, .inl (E.2.2.1 20, 8, .inl (fun _ => 0))), (b + 11, .inl (E.2.2.1 20, 8, .inl (fun _ => 0)))] := by
  refine Met.ofW (cc := cX0_init) (maxL := 1) (ret := none) (by decide) rfl ?_
  intro p e s m args below meth c s₁ B hml hv
  obtain ⟨rfl, hsz, hP, hK, hN⟩ := hv
  have hx := B.exec
  have hb := B.bytes
  have hr := B.returns
  have hts0 := atoms_spec (ws := mws MX0_init) B.pre
  have hts : ∀ w ∈ tbG, w.before _ s = true := fun w hw => hts0 w (List.mem_cons_of_mem _ hw)
  have hown : s.vm.findClass RX0 = some m.cls := findClass_of_methodNamed B.named
  have hin : meth.name = "<init>" := (name_of_methodNamed B.named B.method).1
  have hA : ∀ q : Nat, s.heap.size ≤ q → b ≤ q := fun q h => by omega
  have hD : va_D (fun q => b ≤ q) ([(b, .inr (0, [.null, .null, .null]))] : va_W) := y_span (n := 1) rfl
  have hS : va_S (fun q => b ≤ q) s.heap s.heap [] := va_S.rf
  have hl := lv_entry ([.ref b]) (n := 1) (Nat.le_of_ble_eq_true rfl)
  rw [lg_entry_eq]
  generalize (lg_sl ([.ref b]) ++ List.replicate (1 - (lg_sl ([.ref b])).length) Slot.unset).toArray = ls at hl ⊢
  have hl : lv_has ls 1 [(0, .ref b)] := hl
  refine lv_aload_n hx hb (dk zX0_init 0 rfl) rfl (lv_at hl 0 rfl) ?_
  refine W.objInit hx hb hown (hts _ wk_obj0) (hts _ wk_oi) (hts _ wk_oc) rfl (by rw [hml]; exact hl.1) rfl (dk zX0_init 1 rfl) (Nat.le_of_ble_eq_true rfl) (Nat.le_of_ble_eq_true rfl) ?_
  refine W.eq (g2 := F0 m 4 ls []) rfl ?_
  refine lv_aload_n hx hb (dk zX0_init 2 rfl) rfl (lv_at hl 0 rfl) ?_
  refine lv_bipush hx hb (dk zX0_init 3 rfl) (v := 8) rfl ?_
  refine lv_bipush hx hb (dk zX0_init 4 rfl) (v := 8) rfl ?_
  refine y_mna (own := RX0) (index := 9) (ty := .int) (qa := 4) (qk := 0) (a0 := (8, .inl (fun _ => 0))) (N := 8) (K := 8) hx hb hown (hts _ wk_cl0_9) (nn_oi hN) (hts _ wk_ai) hK rfl rfl (fun _ _ h => h) hP hD hS hA (fun cA => rfl) (by decide) (by decide) (by decide) (by decide) (Nat.le_of_ble_eq_true rfl) (Nat.le_of_ble_eq_true rfl) (Nat.le_of_ble_eq_true rfl) rfl (Nat.le_of_ble_eq_true rfl) (Nat.le_of_ble_eq_true rfl) hsz (dk zX0_init 5 rfl) (fun H4 l4 z4 hP4 hD4 hS4 => ?_)
  replace hP4 : va_P E.2.1 classes [(b, .inr (0, [.null, .null, .null])), (b + 1, .inl (E.2.2.1 24, 8, .inr (.inr (.inr (.inr (fun j => some (b + 1 + 1 + j))))))), (b + 2, .inl (E.2.2.1 20, 8, .inl (fun _ => 0))), (b + 3, .inl (E.2.2.1 20, 8, .inl (fun _ => 0))), (b + 4, .inl (E.2.2.1 20, 8, .inl (fun _ => 0))), (b + 5, .inl (E.2.2.1 20, 8, .inl (fun _ => 0))), (b + 6, .inl (E.2.2.1 20, 8, .inl (fun _ => 0))), (b + 7, .inl (E.2.2.1 20, 8, .inl (fun _ => 0))), (b + 8, .inl (E.2.2.1 20, 8, .inl (fun _ => 0))), (b + 9, .inl (E.2.2.1 20, 8, .inl (fun _ => 0)))] H4 := hP4
  replace hD4 : va_D (fun q => b ≤ q) ([(b, .inr (0, [.null, .null, .null])), (b + 1, .inl (E.2.2.1 24, 8, .inr (.inr (.inr (.inr (fun j => some (b + 1 + 1 + j))))))), (b + 2, .inl (E.2.2.1 20, 8, .inl (fun _ => 0))), (b + 3, .inl (E.2.2.1 20, 8, .inl (fun _ => 0))), (b + 4, .inl (E.2.2.1 20, 8, .inl (fun _ => 0))), (b + 5, .inl (E.2.2.1 20, 8, .inl (fun _ => 0))), (b + 6, .inl (E.2.2.1 20, 8, .inl (fun _ => 0))), (b + 7, .inl (E.2.2.1 20, 8, .inl (fun _ => 0))), (b + 8, .inl (E.2.2.1 20, 8, .inl (fun _ => 0))), (b + 9, .inl (E.2.2.1 20, 8, .inl (fun _ => 0)))] : va_W) := hD4
  replace z4 : H4.size = b + 10 := z4
  clear hP hD hS
  refine va_putF hx hb (Ts := tbG) hts iG0 tyX0 tyX0_ok nmX0 hown hK hP4 hD4 (y_rf hS4) 0 (fs := [.null, .null, .null]) rfl rfl 0 (by decide) (hts _ wk_f0_11) (fun x h => h) rfl hin rfl (ty := .array (.array .int)) rfl rfl rfl (Nat.lt_of_lt_of_le (Nat.lt_succ_self _) (Nat.le_of_ble_eq_true rfl)) (dk zX0_init 6 rfl) (fun H5 l5 hP5 hD5 hT5 => ?_)
  refine y_size (fun hle5 => ?_)
  have z5 := y_eqz hsz z4 hT5 hle5 rfl
  have hS5 := y_tr hS4 hT5
  replace hP5 : va_P E.2.1 classes [(b, .inr (0, [.ref (b + 1), .null, .null])), (b + 1, .inl (E.2.2.1 24, 8, .inr (.inr (.inr (.inr (fun j => some (b + 1 + 1 + j))))))), (b + 2, .inl (E.2.2.1 20, 8, .inl (fun _ => 0))), (b + 3, .inl (E.2.2.1 20, 8, .inl (fun _ => 0))), (b + 4, .inl (E.2.2.1 20, 8, .inl (fun _ => 0))), (b + 5, .inl (E.2.2.1 20, 8, .inl (fun _ => 0))), (b + 6, .inl (E.2.2.1 20, 8, .inl (fun _ => 0))), (b + 7, .inl (E.2.2.1 20, 8, .inl (fun _ => 0))), (b + 8, .inl (E.2.2.1 20, 8, .inl (fun _ => 0))), (b + 9, .inl (E.2.2.1 20, 8, .inl (fun _ => 0)))] H5 := hP5
  replace hD5 : va_D (fun q => b ≤ q) ([(b, .inr (0, [.ref (b + 1), .null, .null])), (b + 1, .inl (E.2.2.1 24, 8, .inr (.inr (.inr (.inr (fun j => some (b + 1 + 1 + j))))))), (b + 2, .inl (E.2.2.1 20, 8, .inl (fun _ => 0))), (b + 3, .inl (E.2.2.1 20, 8, .inl (fun _ => 0))), (b + 4, .inl (E.2.2.1 20, 8, .inl (fun _ => 0))), (b + 5, .inl (E.2.2.1 20, 8, .inl (fun _ => 0))), (b + 6, .inl (E.2.2.1 20, 8, .inl (fun _ => 0))), (b + 7, .inl (E.2.2.1 20, 8, .inl (fun _ => 0))), (b + 8, .inl (E.2.2.1 20, 8, .inl (fun _ => 0))), (b + 9, .inl (E.2.2.1 20, 8, .inl (fun _ => 0)))] : va_W) := hD5
  replace z5 : H5.size = b + 10 := z5
  clear hP4 hD4 hS4 z4 hT5 hle5
  refine lv_aload_n hx hb (dk zX0_init 7 rfl) rfl (lv_at hl 0 rfl) ?_
  refine lv_bipush hx hb (dk zX0_init 8 rfl) (v := 8) rfl ?_
  refine y_newa (atype := .int) (ty := .int) (qk := 0) (a0 := (8, .inl (fun _ => 0))) (N := 8) hx hb (hts _ wk_ai) rfl hK rfl hP5 hD5 hS5 hA (fun cA => rfl) (by decide) (by decide) (Nat.le_of_ble_eq_true rfl) (Nat.le_of_ble_eq_true rfl) (Nat.le_of_ble_eq_true rfl) z5 (dk zX0_init 9 rfl) (fun H8 z8 hP8 hD8 hS8 o8 => ?_)
  replace hP8 : va_P E.2.1 classes [(b, .inr (0, [.ref (b + 1), .null, .null])), (b + 1, .inl (E.2.2.1 24, 8, .inr (.inr (.inr (.inr (fun j => some (b + 1 + 1 + j))))))), (b + 2, .inl (E.2.2.1 20, 8, .inl (fun _ => 0))), (b + 3, .inl (E.2.2.1 20, 8, .inl (fun _ => 0))), (b + 4, .inl (E.2.2.1 20, 8, .inl (fun _ => 0))), (b + 5, .inl (E.2.2.1 20, 8, .inl (fun _ => 0))), (b + 6, .inl (E.2.2.1 20, 8, .inl (fun _ => 0))), (b + 7, .inl (E.2.2.1 20, 8, .inl (fun _ => 0))), (b + 8, .inl (E.2.2.1 20, 8, .inl (fun _ => 0))), (b + 9, .inl (E.2.2.1 20, 8, .inl (fun _ => 0))), (b + 10, .inl (E.2.2.1 20, 8, .inl (fun _ => 0)))] H8 := hP8
  replace hD8 : va_D (fun q => b ≤ q) ([(b, .inr (0, [.ref (b + 1), .null, .null])), (b + 1, .inl (E.2.2.1 24, 8, .inr (.inr (.inr (.inr (fun j => some (b + 1 + 1 + j))))))), (b + 2, .inl (E.2.2.1 20, 8, .inl (fun _ => 0))), (b + 3, .inl (E.2.2.1 20, 8, .inl (fun _ => 0))), (b + 4, .inl (E.2.2.1 20, 8, .inl (fun _ => 0))), (b + 5, .inl (E.2.2.1 20, 8, .inl (fun _ => 0))), (b + 6, .inl (E.2.2.1 20, 8, .inl (fun _ => 0))), (b + 7, .inl (E.2.2.1 20, 8, .inl (fun _ => 0))), (b + 8, .inl (E.2.2.1 20, 8, .inl (fun _ => 0))), (b + 9, .inl (E.2.2.1 20, 8, .inl (fun _ => 0))), (b + 10, .inl (E.2.2.1 20, 8, .inl (fun _ => 0)))] : va_W) := hD8
  replace z8 : H8.size = b + 11 := z8
  clear hP5 hD5 hS5 z5 o8
  refine va_putF hx hb (Ts := tbG) hts iG0 tyX0 tyX0_ok nmX0 hown hK hP8 hD8 (y_rf hS8) 0 (fs := [.ref (b + 1), .null, .null]) rfl rfl 1 (by decide) (hts _ wk_f0_16) (fun x h => h) rfl hin rfl (ty := .array .int) rfl rfl rfl (Nat.lt_of_lt_of_le (Nat.lt_succ_self _) (Nat.le_of_ble_eq_true rfl)) (dk zX0_init 10 rfl) (fun H9 l9 hP9 hD9 hT9 => ?_)
  refine y_size (fun hle9 => ?_)
  have z9 := y_eqz hsz z8 hT9 hle9 rfl
  have hS9 := y_tr hS8 hT9
  replace hP9 : va_P E.2.1 classes [(b, .inr (0, [.ref (b + 1), .ref (b + 10), .null])), (b + 1, .inl (E.2.2.1 24, 8, .inr (.inr (.inr (.inr (fun j => some (b + 1 + 1 + j))))))), (b + 2, .inl (E.2.2.1 20, 8, .inl (fun _ => 0))), (b + 3, .inl (E.2.2.1 20, 8, .inl (fun _ => 0))), (b + 4, .inl (E.2.2.1 20, 8, .inl (fun _ => 0))), (b + 5, .inl (E.2.2.1 20, 8, .inl (fun _ => 0))), (b + 6, .inl (E.2.2.1 20, 8, .inl (fun _ => 0))), (b + 7, .inl (E.2.2.1 20, 8, .inl (fun _ => 0))), (b + 8, .inl (E.2.2.1 20, 8, .inl (fun _ => 0))), (b + 9, .inl (E.2.2.1 20, 8, .inl (fun _ => 0))), (b + 10, .inl (E.2.2.1 20, 8, .inl (fun _ => 0)))] H9 := hP9
  replace hD9 : va_D (fun q => b ≤ q) ([(b, .inr (0, [.ref (b + 1), .ref (b + 10), .null])), (b + 1, .inl (E.2.2.1 24, 8, .inr (.inr (.inr (.inr (fun j => some (b + 1 + 1 + j))))))), (b + 2, .inl (E.2.2.1 20, 8, .inl (fun _ => 0))), (b + 3, .inl (E.2.2.1 20, 8, .inl (fun _ => 0))), (b + 4, .inl (E.2.2.1 20, 8, .inl (fun _ => 0))), (b + 5, .inl (E.2.2.1 20, 8, .inl (fun _ => 0))), (b + 6, .inl (E.2.2.1 20, 8, .inl (fun _ => 0))), (b + 7, .inl (E.2.2.1 20, 8, .inl (fun _ => 0))), (b + 8, .inl (E.2.2.1 20, 8, .inl (fun _ => 0))), (b + 9, .inl (E.2.2.1 20, 8, .inl (fun _ => 0))), (b + 10, .inl (E.2.2.1 20, 8, .inl (fun _ => 0)))] : va_W) := hD9
  replace z9 : H9.size = b + 11 := z9
  clear hP8 hD8 hS8 z8 hT9 hle9
  refine lv_aload_n hx hb (dk zX0_init 11 rfl) rfl (lv_at hl 0 rfl) ?_
  refine lv_bipush hx hb (dk zX0_init 12 rfl) (v := 8) rfl ?_
  refine y_newa (atype := .int) (ty := .int) (qk := 0) (a0 := (8, .inl (fun _ => 0))) (N := 8) hx hb (hts _ wk_ai) rfl hK rfl hP9 hD9 hS9 hA (fun cA => rfl) (by decide) (by decide) (Nat.le_of_ble_eq_true rfl) (Nat.le_of_ble_eq_true rfl) (Nat.le_of_ble_eq_true rfl) z9 (dk zX0_init 13 rfl) (fun H12 z12 hP12 hD12 hS12 o12 => ?_)
  replace hP12 : va_P E.2.1 classes [(b, .inr (0, [.ref (b + 1), .ref (b + 10), .null])), (b + 1, .inl (E.2.2.1 24, 8, .inr (.inr (.inr (.inr (fun j => some (b + 1 + 1 + j))))))), (b + 2, .inl (E.2.2.1 20, 8, .inl (fun _ => 0))), (b + 3, .inl (E.2.2.1 20, 8, .inl (fun _ => 0))), (b + 4, .inl (E.2.2.1 20, 8, .inl (fun _ => 0))), (b + 5, .inl (E.2.2.1 20, 8, .inl (fun _ => 0))), (b + 6, .inl (E.2.2.1 20, 8, .inl (fun _ => 0))), (b + 7, .inl (E.2.2.1 20, 8, .inl (fun _ => 0))), (b + 8, .inl (E.2.2.1 20, 8, .inl (fun _ => 0))), (b + 9, .inl (E.2.2.1 20, 8, .inl (fun _ => 0))), (b + 10, .inl (E.2.2.1 20, 8, .inl (fun _ => 0))), (b + 11, .inl (E.2.2.1 20, 8, .inl (fun _ => 0)))] H12 := hP12
  replace hD12 : va_D (fun q => b ≤ q) ([(b, .inr (0, [.ref (b + 1), .ref (b + 10), .null])), (b + 1, .inl (E.2.2.1 24, 8, .inr (.inr (.inr (.inr (fun j => some (b + 1 + 1 + j))))))), (b + 2, .inl (E.2.2.1 20, 8, .inl (fun _ => 0))), (b + 3, .inl (E.2.2.1 20, 8, .inl (fun _ => 0))), (b + 4, .inl (E.2.2.1 20, 8, .inl (fun _ => 0))), (b + 5, .inl (E.2.2.1 20, 8, .inl (fun _ => 0))), (b + 6, .inl (E.2.2.1 20, 8, .inl (fun _ => 0))), (b + 7, .inl (E.2.2.1 20, 8, .inl (fun _ => 0))), (b + 8, .inl (E.2.2.1 20, 8, .inl (fun _ => 0))), (b + 9, .inl (E.2.2.1 20, 8, .inl (fun _ => 0))), (b + 10, .inl (E.2.2.1 20, 8, .inl (fun _ => 0))), (b + 11, .inl (E.2.2.1 20, 8, .inl (fun _ => 0)))] : va_W) := hD12
  replace z12 : H12.size = b + 12 := z12
  clear hP9 hD9 hS9 z9 o12
  refine va_putF hx hb (Ts := tbG) hts iG0 tyX0 tyX0_ok nmX0 hown hK hP12 hD12 (y_rf hS12) 0 (fs := [.ref (b + 1), .ref (b + 10), .null]) rfl rfl 2 (by decide) (hts _ wk_f0_20) (fun x h => h) rfl hin rfl (ty := .array .int) rfl rfl rfl (Nat.lt_of_lt_of_le (Nat.lt_succ_self _) (Nat.le_of_ble_eq_true rfl)) (dk zX0_init 14 rfl) (fun H13 l13 hP13 hD13 hT13 => ?_)
  refine y_size (fun hle13 => ?_)
  have z13 := y_eqz hsz z12 hT13 hle13 rfl
  have hS13 := y_tr hS12 hT13
  replace hP13 : va_P E.2.1 classes [(b, .inr (0, [.ref (b + 1), .ref (b + 10), .ref (b + 11)])), (b + 1, .inl (E.2.2.1 24, 8, .inr (.inr (.inr (.inr (fun j => some (b + 1 + 1 + j))))))), (b + 2, .inl (E.2.2.1 20, 8, .inl (fun _ => 0))), (b + 3, .inl (E.2.2.1 20, 8, .inl (fun _ => 0))), (b + 4, .inl (E.2.2.1 20, 8, .inl (fun _ => 0))), (b + 5, .inl (E.2.2.1 20, 8, .inl (fun _ => 0))), (b + 6, .inl (E.2.2.1 20, 8, .inl (fun _ => 0))), (b + 7, .inl (E.2.2.1 20, 8, .inl (fun _ => 0))), (b + 8, .inl (E.2.2.1 20, 8, .inl (fun _ => 0))), (b + 9, .inl (E.2.2.1 20, 8, .inl (fun _ => 0))), (b + 10, .inl (E.2.2.1 20, 8, .inl (fun _ => 0))), (b + 11, .inl (E.2.2.1 20, 8, .inl (fun _ => 0)))] H13 := hP13
  replace hD13 : va_D (fun q => b ≤ q) ([(b, .inr (0, [.ref (b + 1), .ref (b + 10), .ref (b + 11)])), (b + 1, .inl (E.2.2.1 24, 8, .inr (.inr (.inr (.inr (fun j => some (b + 1 + 1 + j))))))), (b + 2, .inl (E.2.2.1 20, 8, .inl (fun _ => 0))), (b + 3, .inl (E.2.2.1 20, 8, .inl (fun _ => 0))), (b + 4, .inl (E.2.2.1 20, 8, .inl (fun _ => 0))), (b + 5, .inl (E.2.2.1 20, 8, .inl (fun _ => 0))), (b + 6, .inl (E.2.2.1 20, 8, .inl (fun _ => 0))), (b + 7, .inl (E.2.2.1 20, 8, .inl (fun _ => 0))), (b + 8, .inl (E.2.2.1 20, 8, .inl (fun _ => 0))), (b + 9, .inl (E.2.2.1 20, 8, .inl (fun _ => 0))), (b + 10, .inl (E.2.2.1 20, 8, .inl (fun _ => 0))), (b + 11, .inl (E.2.2.1 20, 8, .inl (fun _ => 0)))] : va_W) := hD13
  replace z13 : H13.size = b + 12 := z13
  clear hP12 hD12 hS12 z12 hT13 hle13
  exact W.vret hx hb hr (fun t ht hW => ⟨⟨(), rfl, trivial, by rw [ht]; exact z13, by rw [ht]; exact hP13⟩, hS13.F ht⟩) hS13.2.2 (dk zX0_init 15 rfl)
end CN0
