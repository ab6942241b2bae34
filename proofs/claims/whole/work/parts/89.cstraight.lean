theorem y_one {E : EV} (o : Nat) {e : va_E} : va_D (fun q => E.2.2.2 + o ≤ q) ([(E.2.2.2 + o, e)] : va_W) := by
  refine ⟨fun i j p q hi hj _ => ?_, fun k q hk => ?_⟩
  · have a := (List.getElem?_eq_some_iff.mp hi).1
    have b := (List.getElem?_eq_some_iff.mp hj).1
    have a : i < 1 := a
    have b : j < 1 := b
    omega
  · obtain ⟨a, b⟩ := List.getElem?_eq_some_iff.mp hk
    have a : k < 1 := a
    have k0 : k = 0 := by omega
    subst k0
    cases b
    exact Nat.le_refl _
section CT3
def tX3_init : List (Nat × Instr × Nat) := [(0, .aload_n 0, 1), (1, .invokespecial 3, 3), (4, .aload_n 0, 1), (5, .bipush 18, 2), (7, .newarray .int, 2), (9, .putfield 9, 3), (12, .aload_n 0, 1), (13, .bipush 11, 2), (15, .putfield 15, 3), (18, .aload_n 0, 1), (19, .iconst (-1), 1), (20, .putfield 19, 3), (23, .return_, 1)]
theorem zX3_init : (tX3_init.all fun q => decide (decode cX3_init q.1 = .ok q.2)) = true := by decide +kernel
abbrev MX3_init : MT := (yX3_init, cX3_init, 1, none, 1, 12)
theorem wk_obj3 : Cond.methodLink RX3 3 objectInit ∈ tbG := tb_at 30 (by decide +kernel) (by decide +kernel)
theorem wk_f3_9 : Cond.fieldLink RX3 9 RX3 (TX3 0).2.1 (TX3 0).2.2.1 ∈ tbG := tb_at 31 (by decide +kernel) (by decide +kernel)
theorem wk_f3_15 : Cond.fieldLink RX3 15 RX3 (TX3 4).2.1 (TX3 4).2.2.1 ∈ tbG := tb_at 35 (by decide +kernel) (by decide +kernel)
theorem wk_f3_19 : Cond.fieldLink RX3 19 RX3 (TX3 5).2.1 (TX3 5).2.2.1 ∈ tbG := tb_at 36 (by decide +kernel) (by decide +kernel)
set_option maxHeartbeats 4000000 in
set_option maxRecDepth 100000 in
theorem c_X3 (E : EV) (o : Nat) : Met E.1 yX3_init (mws MX3_init) ({ frames := 1, cells := 1, slots := 18, locals := 12 }) (va_Pc [.ref (E.2.2.2 + o)] (fun U => U.heap.size = E.2.2.2 + o + 1 ∧ va_P E.2.1 classes [(E.2.2.2 + o, .inr (3, [.null, .int 0, .int 0, .int 0, .int 0, .int 0]))] U.heap ∧ va_K E.2.1 classes (tys E) U)) (va_Qv (fun _ : Unit => True) (fun _ t => t.heap.size = E.2.2.2 + o + 2 ∧ va_P E.2.1 classes [(E.2.2.2 + o, .inr (3, [.ref (E.2.2.2 + o + 1), .int 0, .int 0, .int 0, .int 11, .int (-1)])), (E.2.2.2 + o + 1, .inl (E.2.2.1 20, 18, .inl (fun _ => 0)))] t.heap) (fun q => E.2.2.2 + o ≤ q)) 1 18 (fun q => E.2.2.2 + o ≤ q) := by
  refine Met.ofW (cc := cX3_init) (maxL := 1) (ret := none) (by decide) rfl ?_
  intro p e s m args below meth c s₁ B hml hv
  obtain ⟨rfl, hsz, hP, hK⟩ := hv
  have hx := B.exec
  have hb := B.bytes
  have hr := B.returns
  have hts0 := atoms_spec (ws := mws MX3_init) B.pre
  have hts : ∀ w ∈ tbG, w.before _ s = true := fun w hw => hts0 w (List.mem_cons_of_mem _ hw)
  have hown : s.vm.findClass RX3 = some m.cls := findClass_of_methodNamed B.named
  have hin : meth.name = "<init>" := (name_of_methodNamed B.named B.method).1
  have hA : ∀ q : Nat, s.heap.size ≤ q → E.2.2.2 + o ≤ q := fun q h => by omega
  have hD := y_one (E := E) o (e := .inr (3, [.null, .int 0, .int 0, .int 0, .int 0, .int 0]))
  have hS : va_S (fun q => E.2.2.2 + o ≤ q) s.heap s.heap [] := va_S.rf
  have hl := lv_entry ([.ref (E.2.2.2 + o)]) (n := 1) (Nat.le_of_ble_eq_true rfl)
  rw [lg_entry_eq]
  generalize (lg_sl ([.ref (E.2.2.2 + o)]) ++ List.replicate (1 - (lg_sl ([.ref (E.2.2.2 + o)])).length) Slot.unset).toArray = ls at hl ⊢
  have hl : lv_has ls 1 [(0, .ref (E.2.2.2 + o))] := hl
  refine lv_aload_n hx hb (dk zX3_init 0 rfl) rfl (lv_at hl 0 rfl) ?_
  refine W.objInit hx hb hown (hts _ wk_obj3) (hts _ wk_oi) (hts _ wk_oc) rfl (by rw [hml]; exact hl.1) rfl (dk zX3_init 1 rfl) (Nat.le_of_ble_eq_true rfl) (Nat.le_of_ble_eq_true rfl) ?_
  refine W.eq (g2 := F0 m 4 ls []) rfl ?_
  refine lv_aload_n hx hb (dk zX3_init 2 rfl) rfl (lv_at hl 0 rfl) ?_
  refine lv_bipush hx hb (dk zX3_init 3 rfl) (v := 18) rfl ?_
  refine y_newa (atype := .int) (ty := .int) (qk := 0) (a0 := (18, .inl (fun _ => 0))) (N := 18) hx hb (hts _ wk_ai) rfl hK rfl hP hD hS hA (fun cA => rfl) (by decide) (by decide) (Nat.le_of_ble_eq_true rfl) (Nat.le_of_ble_eq_true rfl) (Nat.le_of_ble_eq_true rfl) hsz (dk zX3_init 4 rfl) (fun H2 z2 hP2 hD2 hS2 o2 => ?_)
  refine va_putF hx hb (Ts := tbG) hts iG3 tyX3 tyX3_ok nmX3 hown hK hP2 hD2 hS2 0 (fs := [.null, .int 0, .int 0, .int 0, .int 0, .int 0]) rfl rfl 0 (by decide) (hts _ wk_f3_9) (fun x h => h) rfl hin rfl (ty := .array .int) rfl rfl rfl (Nat.lt_of_lt_of_le (Nat.lt_succ_self _) (Nat.le_of_ble_eq_true rfl)) (dk zX3_init 5 rfl) (fun H5 l5 hP5 hD5 hS5 => ?_)
  have hP5 : va_P E.2.1 classes [(E.2.2.2 + o, .inr (3, [.ref (E.2.2.2 + o + 1), .int 0, .int 0, .int 0, .int 0, .int 0])), (E.2.2.2 + o + 1, .inl (E.2.2.1 20, 18, .inl (fun _ => 0)))] H5 := hP5
  have hD5 : va_D (fun q => E.2.2.2 + o ≤ q) ([(E.2.2.2 + o, .inr (3, [.ref (E.2.2.2 + o + 1), .int 0, .int 0, .int 0, .int 0, .int 0])), (E.2.2.2 + o + 1, .inl (E.2.2.1 20, 18, .inl (fun _ => 0)))] : va_W) := hD5
  refine y_size (fun hle5 => ?_)
  have hz5 : H5.size = E.2.2.2 + o + 2 := by
    have hlt := (hP5 1 _ rfl).lt
    have hlt : E.2.2.2 + o + 1 < H5.size := hlt
    omega
  refine lv_aload_n hx hb (dk zX3_init 6 rfl) rfl (lv_at hl 0 rfl) ?_
  refine lv_bipush hx hb (dk zX3_init 7 rfl) (v := 11) rfl ?_
  refine va_put hx hb (Ts := tbG) hts iG3 tyX3 tyX3_ok nmX3 hown hK hP5 hD5 hS5 0 (fs := [.ref (E.2.2.2 + o + 1), .int 0, .int 0, .int 0, .int 0, .int 0]) rfl rfl 4 (by decide) (hts _ wk_f3_15) (fun x h => h) rfl (ty := .int) rfl rfl rfl (Nat.lt_of_lt_of_le (Nat.lt_succ_self _) (Nat.le_of_ble_eq_true rfl)) (dk zX3_init 8 rfl) (fun H7 l7 hP7 hD7 hS7 => ?_)
  have hP7 : va_P E.2.1 classes [(E.2.2.2 + o, .inr (3, [.ref (E.2.2.2 + o + 1), .int 0, .int 0, .int 0, .int 11, .int 0])), (E.2.2.2 + o + 1, .inl (E.2.2.1 20, 18, .inl (fun _ => 0)))] H7 := hP7
  have hD7 : va_D (fun q => E.2.2.2 + o ≤ q) ([(E.2.2.2 + o, .inr (3, [.ref (E.2.2.2 + o + 1), .int 0, .int 0, .int 0, .int 11, .int 0])), (E.2.2.2 + o + 1, .inl (E.2.2.1 20, 18, .inl (fun _ => 0)))] : va_W) := hD7
  refine y_size (fun hle7 => ?_)
  have hz7 : H7.size = E.2.2.2 + o + 2 := by
    have hlt := (hP7 1 _ rfl).lt
    have hlt : E.2.2.2 + o + 1 < H7.size := hlt
    omega
  refine lv_aload_n hx hb (dk zX3_init 9 rfl) rfl (lv_at hl 0 rfl) ?_
  refine lv_iconst hx hb (dk zX3_init 10 rfl) (v := -1) rfl ?_
  refine va_put hx hb (Ts := tbG) hts iG3 tyX3 tyX3_ok nmX3 hown hK hP7 hD7 hS7 0 (fs := [.ref (E.2.2.2 + o + 1), .int 0, .int 0, .int 0, .int 11, .int 0]) rfl rfl 5 (by decide) (hts _ wk_f3_19) (fun x h => h) rfl (ty := .int) rfl rfl rfl (Nat.lt_of_lt_of_le (Nat.lt_succ_self _) (Nat.le_of_ble_eq_true rfl)) (dk zX3_init 11 rfl) (fun H9 l9 hP9 hD9 hS9 => ?_)
  have hP9 : va_P E.2.1 classes [(E.2.2.2 + o, .inr (3, [.ref (E.2.2.2 + o + 1), .int 0, .int 0, .int 0, .int 11, .int (-1)])), (E.2.2.2 + o + 1, .inl (E.2.2.1 20, 18, .inl (fun _ => 0)))] H9 := hP9
  have hD9 : va_D (fun q => E.2.2.2 + o ≤ q) ([(E.2.2.2 + o, .inr (3, [.ref (E.2.2.2 + o + 1), .int 0, .int 0, .int 0, .int 11, .int (-1)])), (E.2.2.2 + o + 1, .inl (E.2.2.1 20, 18, .inl (fun _ => 0)))] : va_W) := hD9
  refine y_size (fun hle9 => ?_)
  have hz9 : H9.size = E.2.2.2 + o + 2 := by
    have hlt := (hP9 1 _ rfl).lt
    have hlt : E.2.2.2 + o + 1 < H9.size := hlt
    omega
  exact W.vret hx hb hr (fun t ht hW => ⟨⟨(), rfl, trivial, by rw [ht]; exact hz9, by rw [ht]; exact hP9⟩, hS9.F ht⟩) hS9.2.2 (dk zX3_init 12 rfl)
end CT3
section CT4
def tX4_init : List (Nat × Instr × Nat) := [(0, .aload_n 0, 1), (1, .invokespecial 3, 3), (4, .aload_n 0, 1), (5, .sipush 132, 3), (8, .newarray .int, 2), (10, .putfield 9, 3), (13, .aload_n 0, 1), (14, .bipush 12, 2), (16, .newarray .int, 2), (18, .putfield 15, 3), (21, .aload_n 0, 1), (22, .bipush 12, 2), (24, .newarray .int, 2), (26, .putfield 18, 3), (29, .aload_n 0, 1), (30, .sipush 144, 3), (33, .newarray .int, 2), (35, .putfield 21, 3), (38, .return_, 1)]
theorem zX4_init : (tX4_init.all fun q => decide (decode cX4_init q.1 = .ok q.2)) = true := by decide +kernel
abbrev MX4_init : MT := (yX4_init, cX4_init, 1, none, 1, 12)
theorem wk_obj4 : Cond.methodLink RX4 3 objectInit ∈ tbG := tb_at 195 (by decide +kernel) (by decide +kernel)
theorem wk_f4_9 : Cond.fieldLink RX4 9 RX4 (TX4 0).2.1 (TX4 0).2.2.1 ∈ tbG := tb_at 196 (by decide +kernel) (by decide +kernel)
theorem wk_f4_15 : Cond.fieldLink RX4 15 RX4 (TX4 1).2.1 (TX4 1).2.2.1 ∈ tbG := tb_at 197 (by decide +kernel) (by decide +kernel)
theorem wk_f4_18 : Cond.fieldLink RX4 18 RX4 (TX4 2).2.1 (TX4 2).2.2.1 ∈ tbG := tb_at 198 (by decide +kernel) (by decide +kernel)
theorem wk_f4_21 : Cond.fieldLink RX4 21 RX4 (TX4 3).2.1 (TX4 3).2.2.1 ∈ tbG := tb_at 199 (by decide +kernel) (by decide +kernel)
set_option maxHeartbeats 4000000 in
set_option maxRecDepth 100000 in
theorem c_X4 (E : EV) (o : Nat) : Met E.1 yX4_init (mws MX4_init) ({ frames := 1, cells := 4, slots := 300, locals := 12 }) (va_Pc [.ref (E.2.2.2 + o)] (fun U => U.heap.size = E.2.2.2 + o + 1 ∧ va_P E.2.1 classes [(E.2.2.2 + o, .inr (4, [.null, .null, .null, .null, .int 0]))] U.heap ∧ va_K E.2.1 classes (tys E) U)) (va_Qv (fun _ : Unit => True) (fun _ t => t.heap.size = E.2.2.2 + o + 5 ∧ va_P E.2.1 classes [(E.2.2.2 + o, .inr (4, [.ref (E.2.2.2 + o + 1), .ref (E.2.2.2 + o + 2), .ref (E.2.2.2 + o + 3), .ref (E.2.2.2 + o + 4), .int 0])), (E.2.2.2 + o + 1, .inl (E.2.2.1 20, 132, .inl (fun _ => 0))), (E.2.2.2 + o + 2, .inl (E.2.2.1 20, 12, .inl (fun _ => 0))), (E.2.2.2 + o + 3, .inl (E.2.2.1 20, 12, .inl (fun _ => 0))), (E.2.2.2 + o + 4, .inl (E.2.2.1 20, 144, .inl (fun _ => 0)))] t.heap) (fun q => E.2.2.2 + o ≤ q)) 4 300 (fun q => E.2.2.2 + o ≤ q) := by
  refine Met.ofW (cc := cX4_init) (maxL := 1) (ret := none) (by decide) rfl ?_
  intro p e s m args below meth c s₁ B hml hv
  obtain ⟨rfl, hsz, hP, hK⟩ := hv
  have hx := B.exec
  have hb := B.bytes
  have hr := B.returns
  have hts0 := atoms_spec (ws := mws MX4_init) B.pre
  have hts : ∀ w ∈ tbG, w.before _ s = true := fun w hw => hts0 w (List.mem_cons_of_mem _ hw)
  have hown : s.vm.findClass RX4 = some m.cls := findClass_of_methodNamed B.named
  have hin : meth.name = "<init>" := (name_of_methodNamed B.named B.method).1
  have hA : ∀ q : Nat, s.heap.size ≤ q → E.2.2.2 + o ≤ q := fun q h => by omega
  have hD := y_one (E := E) o (e := .inr (4, [.null, .null, .null, .null, .int 0]))
  have hS : va_S (fun q => E.2.2.2 + o ≤ q) s.heap s.heap [] := va_S.rf
  have hl := lv_entry ([.ref (E.2.2.2 + o)]) (n := 1) (Nat.le_of_ble_eq_true rfl)
  rw [lg_entry_eq]
  generalize (lg_sl ([.ref (E.2.2.2 + o)]) ++ List.replicate (1 - (lg_sl ([.ref (E.2.2.2 + o)])).length) Slot.unset).toArray = ls at hl ⊢
  have hl : lv_has ls 1 [(0, .ref (E.2.2.2 + o))] := hl
  refine lv_aload_n hx hb (dk zX4_init 0 rfl) rfl (lv_at hl 0 rfl) ?_
  refine W.objInit hx hb hown (hts _ wk_obj4) (hts _ wk_oi) (hts _ wk_oc) rfl (by rw [hml]; exact hl.1) rfl (dk zX4_init 1 rfl) (Nat.le_of_ble_eq_true rfl) (Nat.le_of_ble_eq_true rfl) ?_
  refine W.eq (g2 := F0 m 4 ls []) rfl ?_
  refine lv_aload_n hx hb (dk zX4_init 2 rfl) rfl (lv_at hl 0 rfl) ?_
  refine lv_sipush hx hb (dk zX4_init 3 rfl) (v := 132) rfl ?_
  refine y_newa (atype := .int) (ty := .int) (qk := 0) (a0 := (132, .inl (fun _ => 0))) (N := 132) hx hb (hts _ wk_ai) rfl hK rfl hP hD hS hA (fun cA => rfl) (by decide) (by decide) (Nat.le_of_ble_eq_true rfl) (Nat.le_of_ble_eq_true rfl) (Nat.le_of_ble_eq_true rfl) hsz (dk zX4_init 4 rfl) (fun H2 z2 hP2 hD2 hS2 o2 => ?_)
  refine va_putF hx hb (Ts := tbG) hts iG4 tyX4 tyX4_ok nmX4 hown hK hP2 hD2 hS2 0 (fs := [.null, .null, .null, .null, .int 0]) rfl rfl 0 (by decide) (hts _ wk_f4_9) (fun x h => h) rfl hin rfl (ty := .array .int) rfl rfl rfl (Nat.lt_of_lt_of_le (Nat.lt_succ_self _) (Nat.le_of_ble_eq_true rfl)) (dk zX4_init 5 rfl) (fun H5 l5 hP5 hD5 hS5 => ?_)
  have hP5 : va_P E.2.1 classes [(E.2.2.2 + o, .inr (4, [.ref (E.2.2.2 + o + 1), .null, .null, .null, .int 0])), (E.2.2.2 + o + 1, .inl (E.2.2.1 20, 132, .inl (fun _ => 0)))] H5 := hP5
  have hD5 : va_D (fun q => E.2.2.2 + o ≤ q) ([(E.2.2.2 + o, .inr (4, [.ref (E.2.2.2 + o + 1), .null, .null, .null, .int 0])), (E.2.2.2 + o + 1, .inl (E.2.2.1 20, 132, .inl (fun _ => 0)))] : va_W) := hD5
  refine y_size (fun hle5 => ?_)
  have hz5 : H5.size = E.2.2.2 + o + 2 := by
    have hlt := (hP5 1 _ rfl).lt
    have hlt : E.2.2.2 + o + 1 < H5.size := hlt
    omega
  refine lv_aload_n hx hb (dk zX4_init 6 rfl) rfl (lv_at hl 0 rfl) ?_
  refine lv_bipush hx hb (dk zX4_init 7 rfl) (v := 12) rfl ?_
  refine y_newa (atype := .int) (ty := .int) (qk := 0) (a0 := (12, .inl (fun _ => 0))) (N := 12) hx hb (hts _ wk_ai) rfl hK rfl hP5 hD5 hS5 hA (fun cA => rfl) (by decide) (by decide) (Nat.le_of_ble_eq_true rfl) (Nat.le_of_ble_eq_true rfl) (Nat.le_of_ble_eq_true rfl) hz5 (dk zX4_init 8 rfl) (fun H6 z6 hP6 hD6 hS6 o6 => ?_)
  refine va_putF hx hb (Ts := tbG) hts iG4 tyX4 tyX4_ok nmX4 hown hK hP6 hD6 hS6 0 (fs := [.ref (E.2.2.2 + o + 1), .null, .null, .null, .int 0]) rfl rfl 1 (by decide) (hts _ wk_f4_15) (fun x h => h) rfl hin rfl (ty := .array .int) rfl rfl rfl (Nat.lt_of_lt_of_le (Nat.lt_succ_self _) (Nat.le_of_ble_eq_true rfl)) (dk zX4_init 9 rfl) (fun H9 l9 hP9 hD9 hS9 => ?_)
  have hP9 : va_P E.2.1 classes [(E.2.2.2 + o, .inr (4, [.ref (E.2.2.2 + o + 1), .ref (E.2.2.2 + o + 2), .null, .null, .int 0])), (E.2.2.2 + o + 1, .inl (E.2.2.1 20, 132, .inl (fun _ => 0))), (E.2.2.2 + o + 2, .inl (E.2.2.1 20, 12, .inl (fun _ => 0)))] H9 := hP9
  have hD9 : va_D (fun q => E.2.2.2 + o ≤ q) ([(E.2.2.2 + o, .inr (4, [.ref (E.2.2.2 + o + 1), .ref (E.2.2.2 + o + 2), .null, .null, .int 0])), (E.2.2.2 + o + 1, .inl (E.2.2.1 20, 132, .inl (fun _ => 0))), (E.2.2.2 + o + 2, .inl (E.2.2.1 20, 12, .inl (fun _ => 0)))] : va_W) := hD9
  refine y_size (fun hle9 => ?_)
  have hz9 : H9.size = E.2.2.2 + o + 3 := by
    have hlt := (hP9 2 _ rfl).lt
    have hlt : E.2.2.2 + o + 2 < H9.size := hlt
    omega
  refine lv_aload_n hx hb (dk zX4_init 10 rfl) rfl (lv_at hl 0 rfl) ?_
  refine lv_bipush hx hb (dk zX4_init 11 rfl) (v := 12) rfl ?_
  refine y_newa (atype := .int) (ty := .int) (qk := 0) (a0 := (12, .inl (fun _ => 0))) (N := 12) hx hb (hts _ wk_ai) rfl hK rfl hP9 hD9 hS9 hA (fun cA => rfl) (by decide) (by decide) (Nat.le_of_ble_eq_true rfl) (Nat.le_of_ble_eq_true rfl) (Nat.le_of_ble_eq_true rfl) hz9 (dk zX4_init 12 rfl) (fun H10 z10 hP10 hD10 hS10 o10 => ?_)
  refine va_putF hx hb (Ts := tbG) hts iG4 tyX4 tyX4_ok nmX4 hown hK hP10 hD10 hS10 0 (fs := [.ref (E.2.2.2 + o + 1), .ref (E.2.2.2 + o + 2), .null, .null, .int 0]) rfl rfl 2 (by decide) (hts _ wk_f4_18) (fun x h => h) rfl hin rfl (ty := .array .int) rfl rfl rfl (Nat.lt_of_lt_of_le (Nat.lt_succ_self _) (Nat.le_of_ble_eq_true rfl)) (dk zX4_init 13 rfl) (fun H13 l13 hP13 hD13 hS13 => ?_)
  have hP13 : va_P E.2.1 classes [(E.2.2.2 + o, .inr (4, [.ref (E.2.2.2 + o + 1), .ref (E.2.2.2 + o + 2), .ref (E.2.2.2 + o + 3), .null, .int 0])), (E.2.2.2 + o + 1, .inl (E.2.2.1 20, 132, .inl (fun _ => 0))), (E.2.2.2 + o + 2, .inl (E.2.2.1 20, 12, .inl (fun _ => 0))), (E.2.2.2 + o + 3, .inl (E.2.2.1 20, 12, .inl (fun _ => 0)))] H13 := hP13
  have hD13 : va_D (fun q => E.2.2.2 + o ≤ q) ([(E.2.2.2 + o, .inr (4, [.ref (E.2.2.2 + o + 1), .ref (E.2.2.2 + o + 2), .ref (E.2.2.2 + o + 3), .null, .int 0])), (E.2.2.2 + o + 1, .inl (E.2.2.1 20, 132, .inl (fun _ => 0))), (E.2.2.2 + o + 2, .inl (E.2.2.1 20, 12, .inl (fun _ => 0))), (E.2.2.2 + o + 3, .inl (E.2.2.1 20, 12, .inl (fun _ => 0)))] : va_W) := hD13
  refine y_size (fun hle13 => ?_)
  have hz13 : H13.size = E.2.2.2 + o + 4 := by
    have hlt := (hP13 3 _ rfl).lt
    have hlt : E.2.2.2 + o + 3 < H13.size := hlt
    omega
  refine lv_aload_n hx hb (dk zX4_init 14 rfl) rfl (lv_at hl 0 rfl) ?_
  refine lv_sipush hx hb (dk zX4_init 15 rfl) (v := 144) rfl ?_
  refine y_newa (atype := .int) (ty := .int) (qk := 0) (a0 := (144, .inl (fun _ => 0))) (N := 144) hx hb (hts _ wk_ai) rfl hK rfl hP13 hD13 hS13 hA (fun cA => rfl) (by decide) (by decide) (Nat.le_of_ble_eq_true rfl) (Nat.le_of_ble_eq_true rfl) (Nat.le_of_ble_eq_true rfl) hz13 (dk zX4_init 16 rfl) (fun H14 z14 hP14 hD14 hS14 o14 => ?_)
  refine va_putF hx hb (Ts := tbG) hts iG4 tyX4 tyX4_ok nmX4 hown hK hP14 hD14 hS14 0 (fs := [.ref (E.2.2.2 + o + 1), .ref (E.2.2.2 + o + 2), .ref (E.2.2.2 + o + 3), .null, .int 0]) rfl rfl 3 (by decide) (hts _ wk_f4_21) (fun x h => h) rfl hin rfl (ty := .array .int) rfl rfl rfl (Nat.lt_of_lt_of_le (Nat.lt_succ_self _) (Nat.le_of_ble_eq_true rfl)) (dk zX4_init 17 rfl) (fun H17 l17 hP17 hD17 hS17 => ?_)
  have hP17 : va_P E.2.1 classes [(E.2.2.2 + o, .inr (4, [.ref (E.2.2.2 + o + 1), .ref (E.2.2.2 + o + 2), .ref (E.2.2.2 + o + 3), .ref (E.2.2.2 + o + 4), .int 0])), (E.2.2.2 + o + 1, .inl (E.2.2.1 20, 132, .inl (fun _ => 0))), (E.2.2.2 + o + 2, .inl (E.2.2.1 20, 12, .inl (fun _ => 0))), (E.2.2.2 + o + 3, .inl (E.2.2.1 20, 12, .inl (fun _ => 0))), (E.2.2.2 + o + 4, .inl (E.2.2.1 20, 144, .inl (fun _ => 0)))] H17 := hP17
  have hD17 : va_D (fun q => E.2.2.2 + o ≤ q) ([(E.2.2.2 + o, .inr (4, [.ref (E.2.2.2 + o + 1), .ref (E.2.2.2 + o + 2), .ref (E.2.2.2 + o + 3), .ref (E.2.2.2 + o + 4), .int 0])), (E.2.2.2 + o + 1, .inl (E.2.2.1 20, 132, .inl (fun _ => 0))), (E.2.2.2 + o + 2, .inl (E.2.2.1 20, 12, .inl (fun _ => 0))), (E.2.2.2 + o + 3, .inl (E.2.2.1 20, 12, .inl (fun _ => 0))), (E.2.2.2 + o + 4, .inl (E.2.2.1 20, 144, .inl (fun _ => 0)))] : va_W) := hD17
  refine y_size (fun hle17 => ?_)
  have hz17 : H17.size = E.2.2.2 + o + 5 := by
    have hlt := (hP17 4 _ rfl).lt
    have hlt : E.2.2.2 + o + 4 < H17.size := hlt
    omega
  exact W.vret hx hb hr (fun t ht hW => ⟨⟨(), rfl, trivial, by rw [ht]; exact hz17, by rw [ht]; exact hP17⟩, hS17.F ht⟩) hS17.2.2 (dk zX4_init 18 rfl)
end CT4
