theorem wk_minI : Cond.initialized "java/lang/Math" ∈ tbG := tb_at 13 (by decide +kernel) (by decide +kernel)
section CT8
def tX8_init : List (Nat × Instr × Nat) := [(0, .aload_n 0, 1), (1, .invokespecial 3, 3), (4, .aload_n 0, 1), (5, .bipush 50, 2), (7, .newarray .int, 2), (9, .putfield 9, 3), (12, .aload_n 0, 1), (13, .iload_n 1, 1), (14, .bipush 50, 2), (16, .invokestatic 15, 3), (19, .putfield 21, 3), (22, .return_, 1)]
theorem zX8_init : (tX8_init.all fun q => decide (decode cX8_init q.1 = .ok q.2)) = true := by decide +kernel
abbrev MX8_init : MT := (yX8_init, cX8_init, 2, none, 1, 14)
theorem wk_obj8 : Cond.methodLink RX8 3 objectInit ∈ tbG := tb_at 241 (by decide +kernel) (by decide +kernel)
theorem wk_f8_9 : Cond.fieldLink RX8 9 RX8 (TX8 0).2.1 (TX8 0).2.2.1 ∈ tbG := tb_at 245 (by decide +kernel) (by decide +kernel)
theorem wk_f8_21 : Cond.fieldLink RX8 21 RX8 (TX8 1).2.1 (TX8 1).2.2.1 ∈ tbG := tb_at 246 (by decide +kernel) (by decide +kernel)
set_option maxHeartbeats 4000000 in
set_option maxRecDepth 100000 in
theorem c_X8 (E : EV) (o : Nat) (a : Int32) : Met E.1 yX8_init (mws MX8_init) ({ frames := 1, cells := 1, slots := 50, locals := 14 }) (va_Pc [.ref (E.2.2.2 + o), .int a] (fun U => U.heap.size = E.2.2.2 + o + 1 ∧ va_P E.2.1 classes [(E.2.2.2 + o, .inr (8, [.null, .int 0, .int 0]))] U.heap ∧ va_K E.2.1 classes (tys E) U)) (va_Qv (fun _ : Unit => True) (fun _ t => t.heap.size = E.2.2.2 + o + 2 ∧ va_P E.2.1 classes [(E.2.2.2 + o, .inr (8, [.ref (E.2.2.2 + o + 1), .int (if 50 < a then 50 else a), .int 0])), (E.2.2.2 + o + 1, .inl (E.2.2.1 20, 50, .inl (fun _ => 0)))] t.heap) (fun q => E.2.2.2 + o ≤ q)) 1 50 (fun q => E.2.2.2 + o ≤ q) := by
  refine Met.ofW (cc := cX8_init) (maxL := 2) (ret := none) (by decide) rfl ?_
  intro p e s m args below meth c s₁ B hml hv
  obtain ⟨rfl, hsz, hP, hK⟩ := hv
  have hx := B.exec
  have hb := B.bytes
  have hr := B.returns
  have hts0 := atoms_spec (ws := mws MX8_init) B.pre
  have hts : ∀ w ∈ tbG, w.before _ s = true := fun w hw => hts0 w (List.mem_cons_of_mem _ hw)
  have hown : s.vm.findClass RX8 = some m.cls := findClass_of_methodNamed B.named
  have hin : meth.name = "<init>" := (name_of_methodNamed B.named B.method).1
  have hA : ∀ q : Nat, s.heap.size ≤ q → E.2.2.2 + o ≤ q := fun q h => by omega
  have hD := y_one (E := E) o (e := .inr (8, [.null, .int 0, .int 0]))
  have hS : va_S (fun q => E.2.2.2 + o ≤ q) s.heap s.heap [] := va_S.rf
  have hl := lv_entry ([.ref (E.2.2.2 + o), .int a]) (n := 2) (Nat.le_of_ble_eq_true rfl)
  rw [lg_entry_eq]
  generalize (lg_sl ([.ref (E.2.2.2 + o), .int a]) ++ List.replicate (2 - (lg_sl ([.ref (E.2.2.2 + o), .int a])).length) Slot.unset).toArray = ls at hl ⊢
  have hl : lv_has ls 2 [(0, .ref (E.2.2.2 + o)), (1, .int a)] := hl
  refine lv_aload_n hx hb (dk zX8_init 0 rfl) rfl (lv_at hl 0 rfl) ?_
  refine W.objInit hx hb hown (hts _ wk_obj8) (hts _ wk_oi) (hts _ wk_oc) rfl (by rw [hml]; exact hl.1) rfl (dk zX8_init 1 rfl) (Nat.le_of_ble_eq_true rfl) (Nat.le_of_ble_eq_true rfl) ?_
  refine W.eq (g2 := F0 m 4 ls []) rfl ?_
  refine lv_aload_n hx hb (dk zX8_init 2 rfl) rfl (lv_at hl 0 rfl) ?_
  refine lv_bipush hx hb (dk zX8_init 3 rfl) (v := 50) rfl ?_
  refine y_newa (atype := .int) (ty := .int) (qk := 0) (a0 := (50, .inl (fun _ => 0))) (N := 50) hx hb (hts _ wk_ai) rfl hK rfl hP hD hS hA (fun cA => rfl) (by decide) (by decide) (Nat.le_of_ble_eq_true rfl) (Nat.le_of_ble_eq_true rfl) (Nat.le_of_ble_eq_true rfl) hsz (dk zX8_init 4 rfl) (fun H2 z2 hP2 hD2 hS2 o2 => ?_)
  refine va_putF hx hb (Ts := tbG) hts iG8 tyX8 tyX8_ok nmX8 hown hK hP2 hD2 hS2 0 (fs := [.null, .int 0, .int 0]) rfl rfl 0 (by decide) (hts _ wk_f8_9) (fun x h => h) rfl hin rfl (ty := .array .int) rfl rfl rfl (Nat.lt_of_lt_of_le (Nat.lt_succ_self _) (Nat.le_of_ble_eq_true rfl)) (dk zX8_init 5 rfl) (fun H5 l5 hP5 hD5 hS5 => ?_)
  have hP5 : va_P E.2.1 classes [(E.2.2.2 + o, .inr (8, [.ref (E.2.2.2 + o + 1), .int 0, .int 0])), (E.2.2.2 + o + 1, .inl (E.2.2.1 20, 50, .inl (fun _ => 0)))] H5 := hP5
  have hD5 : va_D (fun q => E.2.2.2 + o ≤ q) ([(E.2.2.2 + o, .inr (8, [.ref (E.2.2.2 + o + 1), .int 0, .int 0])), (E.2.2.2 + o + 1, .inl (E.2.2.1 20, 50, .inl (fun _ => 0)))] : va_W) := hD5
  refine y_size (fun hle5 => ?_)
  have hz5 : H5.size = E.2.2.2 + o + 2 := by
    have hlt := (hP5 1 _ rfl).lt
    have hlt : E.2.2.2 + o + 1 < H5.size := hlt
    omega
  refine lv_aload_n hx hb (dk zX8_init 6 rfl) rfl (lv_at hl 0 rfl) ?_
  refine lv_iload_n hx hb (dk zX8_init 7 rfl) rfl (lv_at hl 1 rfl) ?_
  refine lv_bipush hx hb (dk zX8_init 8 rfl) (v := 50) rfl ?_
  refine va_mmin hx hb (hml.trans hl.1.symm) hown (hts _ wmRX8_15) (hts _ wmmin_s) (hts _ wk_minI) (hts _ wmmin_c) (Nat.le_of_ble_eq_true rfl) (Nat.le_of_ble_eq_true rfl) (Nat.le_of_ble_eq_true rfl) (Nat.le_of_ble_eq_true rfl) (dk zX8_init 9 rfl) ?_
  refine va_putF hx hb (Ts := tbG) hts iG8 tyX8 tyX8_ok nmX8 hown hK hP5 hD5 hS5 0 (fs := [.ref (E.2.2.2 + o + 1), .int 0, .int 0]) rfl rfl 1 (by decide) (hts _ wk_f8_21) (fun x h => h) rfl hin rfl (ty := .int) rfl rfl rfl (Nat.lt_of_lt_of_le (Nat.lt_succ_self _) (Nat.le_of_ble_eq_true rfl)) (dk zX8_init 10 rfl) (fun H7 l7 hP7 hD7 hS7 => ?_)
  have hP7 : va_P E.2.1 classes [(E.2.2.2 + o, .inr (8, [.ref (E.2.2.2 + o + 1), .int (if 50 < a then 50 else a), .int 0])), (E.2.2.2 + o + 1, .inl (E.2.2.1 20, 50, .inl (fun _ => 0)))] H7 := hP7
  have hD7 : va_D (fun q => E.2.2.2 + o ≤ q) ([(E.2.2.2 + o, .inr (8, [.ref (E.2.2.2 + o + 1), .int (if 50 < a then 50 else a), .int 0])), (E.2.2.2 + o + 1, .inl (E.2.2.1 20, 50, .inl (fun _ => 0)))] : va_W) := hD7
  refine y_size (fun hle7 => ?_)
  have hz7 : H7.size = E.2.2.2 + o + 2 := by
    have hlt := (hP7 1 _ rfl).lt
    have hlt : E.2.2.2 + o + 1 < H7.size := hlt
    omega
  exact W.vret hx hb hr (fun t ht hW => ⟨⟨(), rfl, trivial, by rw [ht]; exact hz7, by rw [ht]; exact hP7⟩, hS7.F ht⟩) hS7.2.2 (dk zX8_init 11 rfl)
end CT8
