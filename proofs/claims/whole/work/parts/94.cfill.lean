theorem y_int {D : va_G} {cl : List vw_C} {a n : Nat} {cI : ClassId} {f g : Nat → Int32} {H : Heap} (h : ∀ j, j < n → f j = g j) (hP : va_at D cl (a, .inl (cI, n, .inl f)) H) : va_at D cl (a, .inl (cI, n, .inl g)) H := by
  have hP : H[a]? = some (vp_cell cI (n, .inl f)) := hP
  show H[a]? = some (vp_cell cI (n, .inl g))
  rw [hP, vp_cell_i, vp_cell_i, arrV_eq cI n (fun j hj => by rw [h j hj])]
theorem y_same4 {f : Nat → Int32} {v : Int32} (j : Nat) (hj : j < 4) : upd (upd (upd (upd f 0 v) 1 v) 2 v) 3 v j = v := by
  rcases (show j = 0 ∨ j = 1 ∨ j = 2 ∨ j = 3 by omega) with rfl | rfl | rfl | rfl <;> rfl
section FILL
set_option maxHeartbeats 4000000 in
set_option maxRecDepth 100000 in
theorem n_fill (E : EV) (a : Nat) (v : Int32) (f : Nat → Int32) : Met E.1 yJ7_fill_53178 (mws MJ7_fill_53178) ({ frames := 0, cells := 0, slots := 0, locals := 0 }) (va_Pc [.ref a, .int v] (fun U => va_P E.2.1 classes [(a, .inl (E.2.2.1 20, 4, .inl f))] U.heap ∧ va_K E.2.1 classes (tys E) U)) (va_Qv (fun _ : Unit => True) (fun _ t => va_P E.2.1 classes [(a, .inl (E.2.2.1 20, 4, .inl (fun _ => v)))] t.heap) (fun q => q = a)) 0 0 (fun q => q = a) := by
  refine Met.ofW (cc := cJ7_fill_53178) (maxL := 4) (ret := none) (by decide) rfl ?_
  intro p e s m args below meth c s₁ B hml hv
  obtain ⟨rfl, hP, hK⟩ := hv
  have hx := B.exec
  have hb := B.bytes
  have hr := B.returns
  have hD : va_D (fun q => q = a) ([(a, .inl (E.2.2.1 20, 4, .inl f))] : va_W) := (y_span (b := a) (n := 1) (w1 := [(a, .inl (E.2.2.1 20, 4, .inl f))]) rfl).weaken (fun k q hk _ => by
    cases k with
    | zero => cases hk; rfl
    | succ k => cases hk)
  have hS : va_S (fun q => q = a) s.heap s.heap [] := va_S.rf
  have hl := lv_entry ([.ref a, .int v]) (n := 4) (Nat.le_of_ble_eq_true rfl)
  rw [lg_entry_eq]
  generalize (lg_sl ([.ref a, .int v]) ++ List.replicate (4 - (lg_sl ([.ref a, .int v])).length) Slot.unset).toArray = ls at hl ⊢
  have hl : lv_has ls 4 [(0, .ref a), (1, .int v)] := hl
  refine lv_iconst hx hb (dk zJ7_fill_53178 0 rfl) (v := 0) rfl ?_
  refine lv_istore_n (lv' := [(2, .int 0), (0, .ref a), (1, .int v)]) hx hb (dk zJ7_fill_53178 1 rfl) rfl hl (by decide) rfl (fun ls hl => ?_)
  refine lv_aload_n hx hb (dk zJ7_fill_53178 2 rfl) rfl (lv_at hl 1 rfl) ?_
  refine va_alen (v := 4) hx hb hK hP 0 0 rfl rfl rfl (dk zJ7_fill_53178 3 rfl) ?_
  refine lv_istore_n (lv' := [(3, .int 4), (2, .int 0), (0, .ref a), (1, .int v)]) hx hb (dk zJ7_fill_53178 4 rfl) rfl hl (by decide) rfl (fun ls hl => ?_)
  have hl : lv_has ls 4 [(2, .int 0), (3, .int 4), (0, .ref a), (1, .int v)] := lv_sub hl [1, 0, 2, 3] rfl
  refine lv_iload_n hx hb (dk zJ7_fill_53178 5 rfl) rfl (lv_at hl 0 rfl) ?_
  refine lv_iload_n hx hb (dk zJ7_fill_53178 6 rfl) rfl (lv_at hl 1 rfl) ?_
  refine lv_icmp_ge (tgt := 20) hx hb (dk zJ7_fill_53178 7 rfl) (by decide) (fun z => absurd z (by decide)) (fun _ => ?_)
  refine lv_aload_n hx hb (dk zJ7_fill_53178 8 rfl) rfl (lv_at hl 2 rfl) ?_
  refine lv_iload_n hx hb (dk zJ7_fill_53178 9 rfl) rfl (lv_at hl 0 rfl) ?_
  refine lv_iload_n hx hb (dk zJ7_fill_53178 10 rfl) rfl (lv_at hl 3 rfl) ?_
  refine va_iast hx hb hK hP hD hS 0 0 rfl rfl (by unfold vp_in; decide) (dk zJ7_fill_53178 11 rfl) (fun H l1 hP hD hS => ?_)
  rw [show (0 : Int32).toNatClampNeg = 0 by decide] at hP hD
  have hP : va_P E.2.1 classes [(a, .inl (E.2.2.1 20, 4, .inl (upd f 0 v)))] H := hP
  have hD : va_D (fun q => q = a) ([(a, .inl (E.2.2.1 20, 4, .inl (upd f 0 v)))] : va_W) := hD
  refine lv_iinc (k := 0) (lv' := [(2, .int 1), (3, .int 4), (0, .ref a), (1, .int v)]) hx hb (dk zJ7_fill_53178 12 rfl) hl rfl (v := 1) (by decide) (by decide) rfl (fun ls hl => ?_)
  refine lv_goto (tgt := 5) hx hb (dk zJ7_fill_53178 13 rfl) (by decide) ?_
  refine lv_iload_n hx hb (dk zJ7_fill_53178 5 rfl) rfl (lv_at hl 0 rfl) ?_
  refine lv_iload_n hx hb (dk zJ7_fill_53178 6 rfl) rfl (lv_at hl 1 rfl) ?_
  refine lv_icmp_ge (tgt := 20) hx hb (dk zJ7_fill_53178 7 rfl) (by decide) (fun z => absurd z (by decide)) (fun _ => ?_)
  refine lv_aload_n hx hb (dk zJ7_fill_53178 8 rfl) rfl (lv_at hl 2 rfl) ?_
  refine lv_iload_n hx hb (dk zJ7_fill_53178 9 rfl) rfl (lv_at hl 0 rfl) ?_
  refine lv_iload_n hx hb (dk zJ7_fill_53178 10 rfl) rfl (lv_at hl 3 rfl) ?_
  refine va_iast hx hb hK hP hD hS 0 0 rfl rfl (by unfold vp_in; decide) (dk zJ7_fill_53178 11 rfl) (fun H l1 hP hD hS => ?_)
  rw [show (1 : Int32).toNatClampNeg = 1 by decide] at hP hD
  have hP : va_P E.2.1 classes [(a, .inl (E.2.2.1 20, 4, .inl (upd (upd f 0 v) 1 v)))] H := hP
  have hD : va_D (fun q => q = a) ([(a, .inl (E.2.2.1 20, 4, .inl (upd (upd f 0 v) 1 v)))] : va_W) := hD
  refine lv_iinc (k := 0) (lv' := [(2, .int 2), (3, .int 4), (0, .ref a), (1, .int v)]) hx hb (dk zJ7_fill_53178 12 rfl) hl rfl (v := 2) (by decide) (by decide) rfl (fun ls hl => ?_)
  refine lv_goto (tgt := 5) hx hb (dk zJ7_fill_53178 13 rfl) (by decide) ?_
  refine lv_iload_n hx hb (dk zJ7_fill_53178 5 rfl) rfl (lv_at hl 0 rfl) ?_
  refine lv_iload_n hx hb (dk zJ7_fill_53178 6 rfl) rfl (lv_at hl 1 rfl) ?_
  refine lv_icmp_ge (tgt := 20) hx hb (dk zJ7_fill_53178 7 rfl) (by decide) (fun z => absurd z (by decide)) (fun _ => ?_)
  refine lv_aload_n hx hb (dk zJ7_fill_53178 8 rfl) rfl (lv_at hl 2 rfl) ?_
  refine lv_iload_n hx hb (dk zJ7_fill_53178 9 rfl) rfl (lv_at hl 0 rfl) ?_
  refine lv_iload_n hx hb (dk zJ7_fill_53178 10 rfl) rfl (lv_at hl 3 rfl) ?_
  refine va_iast hx hb hK hP hD hS 0 0 rfl rfl (by unfold vp_in; decide) (dk zJ7_fill_53178 11 rfl) (fun H l1 hP hD hS => ?_)
  rw [show (2 : Int32).toNatClampNeg = 2 by decide] at hP hD
  have hP : va_P E.2.1 classes [(a, .inl (E.2.2.1 20, 4, .inl (upd (upd (upd f 0 v) 1 v) 2 v)))] H := hP
  have hD : va_D (fun q => q = a) ([(a, .inl (E.2.2.1 20, 4, .inl (upd (upd (upd f 0 v) 1 v) 2 v)))] : va_W) := hD
  refine lv_iinc (k := 0) (lv' := [(2, .int 3), (3, .int 4), (0, .ref a), (1, .int v)]) hx hb (dk zJ7_fill_53178 12 rfl) hl rfl (v := 3) (by decide) (by decide) rfl (fun ls hl => ?_)
  refine lv_goto (tgt := 5) hx hb (dk zJ7_fill_53178 13 rfl) (by decide) ?_
  refine lv_iload_n hx hb (dk zJ7_fill_53178 5 rfl) rfl (lv_at hl 0 rfl) ?_
  refine lv_iload_n hx hb (dk zJ7_fill_53178 6 rfl) rfl (lv_at hl 1 rfl) ?_
  refine lv_icmp_ge (tgt := 20) hx hb (dk zJ7_fill_53178 7 rfl) (by decide) (fun z => absurd z (by decide)) (fun _ => ?_)
  refine lv_aload_n hx hb (dk zJ7_fill_53178 8 rfl) rfl (lv_at hl 2 rfl) ?_
  refine lv_iload_n hx hb (dk zJ7_fill_53178 9 rfl) rfl (lv_at hl 0 rfl) ?_
  refine lv_iload_n hx hb (dk zJ7_fill_53178 10 rfl) rfl (lv_at hl 3 rfl) ?_
  refine va_iast hx hb hK hP hD hS 0 0 rfl rfl (by unfold vp_in; decide) (dk zJ7_fill_53178 11 rfl) (fun H l1 hP hD hS => ?_)
  rw [show (3 : Int32).toNatClampNeg = 3 by decide] at hP hD
  have hP : va_P E.2.1 classes [(a, .inl (E.2.2.1 20, 4, .inl (upd (upd (upd (upd f 0 v) 1 v) 2 v) 3 v)))] H := hP
  have hD : va_D (fun q => q = a) ([(a, .inl (E.2.2.1 20, 4, .inl (upd (upd (upd (upd f 0 v) 1 v) 2 v) 3 v)))] : va_W) := hD
  refine lv_iinc (k := 0) (lv' := [(2, .int 4), (3, .int 4), (0, .ref a), (1, .int v)]) hx hb (dk zJ7_fill_53178 12 rfl) hl rfl (v := 4) (by decide) (by decide) rfl (fun ls hl => ?_)
  refine lv_goto (tgt := 5) hx hb (dk zJ7_fill_53178 13 rfl) (by decide) ?_
  refine lv_iload_n hx hb (dk zJ7_fill_53178 5 rfl) rfl (lv_at hl 0 rfl) ?_
  refine lv_iload_n hx hb (dk zJ7_fill_53178 6 rfl) rfl (lv_at hl 1 rfl) ?_
  refine lv_icmp_ge (tgt := 20) hx hb (dk zJ7_fill_53178 7 rfl) (by decide) (fun _ => ?_) (fun z => absurd (by decide) z)
  have hP9 : va_P E.2.1 classes [(a, .inl (E.2.2.1 20, 4, .inl (fun _ => v)))] H := fun k q hk => by
    cases k with
    | zero => cases hk; exact y_int y_same4 (hP 0 _ rfl)
    | succ k => cases hk
  exact W.vret hx hb hr (fun t ht hW => ⟨⟨(), rfl, trivial, by show va_P _ _ _ t.heap; rw [ht]; exact hP9⟩, hS.F ht⟩) hS.2.2 (dk zJ7_fill_53178 14 rfl)
end FILL
section CN7
def tX7_init : List (Nat × Instr × Nat) := [(0, .aload_n 0, 1), (1, .invokespecial 3, 3), (4, .aload_n 0, 1), (5, .iconst 4, 1), (6, .bipush 60, 2), (8, .multianewarray 9 2, 4), (12, .putfield 11, 3), (15, .aload_n 0, 1), (16, .iconst 4, 1), (17, .newarray .int, 2), (19, .putfield 16, 3), (22, .aload_n 0, 1), (23, .iconst 4, 1), (24, .newarray .int, 2), (26, .putfield 20, 3), (29, .aload_n 0, 1), (30, .getfield 20, 3), (33, .iconst (-1), 1), (34, .invokestatic 23, 3), (37, .return_, 1)]
theorem zX7_init : (tX7_init.all fun q => decide (decode cX7_init q.1 = .ok q.2)) = true := by decide +kernel
abbrev MX7_init : MT := (yX7_init, cX7_init, 1, none, 1, 32)
theorem wk_obj7 : Cond.methodLink RX7 3 objectInit ∈ tbG := tb_at 219 (by decide +kernel) (by decide +kernel)
theorem wk_cl7_9 : Cond.classLink RX7 9 ("[" ++ (FieldType.array .int).toString) ∈ tbG := tb_at 220 (by decide +kernel) (by decide +kernel)
theorem wk_f7_11 : Cond.fieldLink RX7 11 RX7 (TX7 0).2.1 (TX7 0).2.2.1 ∈ tbG := tb_at 224 (by decide +kernel) (by decide +kernel)
theorem wk_f7_16 : Cond.fieldLink RX7 16 RX7 (TX7 1).2.1 (TX7 1).2.2.1 ∈ tbG := tb_at 225 (by decide +kernel) (by decide +kernel)
theorem wk_f7_20 : Cond.fieldLink RX7 20 RX7 (TX7 2).2.1 (TX7 2).2.2.1 ∈ tbG := tb_at 226 (by decide +kernel) (by decide +kernel)
set_option maxHeartbeats 4000000 in
set_option maxRecDepth 100000 in
theorem n_X7 (E : EV) (b : Nat) : Cn E MX7_init b [] 7 [.null, .null, .null, .int 0] 7 252 [(b, .inr (7, [.ref (b + 1), .ref (b + 6), .ref (b + 7), .int 0])), (b + 1, .inl (E.2.2.1 24, 4, .inr (.inr (.inr (.inr (fun j => some (b + 1 + 1 + j))))))), (b + 2, .inl (E.2.2.1 20, 60, .inl (fun _ => 0))), (b + 3, .inl (E.2.2.1 20, 60, .inl (fun _ => 0))), (b + 4, .inl (E.2.2.1 20, 60, .inl (fun _ => 0))), (b + 5, .inl (E.2.2.1 20, 60, .inl (fun _ => 0))), (b + 6, .inl (E.2.2.1 20, 4, .inl (fun _ => 0))), (b + 7, .inl (E.2.2.1 20, 4, .inl (fun _ => -1)))] := by
  refine Met.ofW (cc := cX7_init) (maxL := 1) (ret := none) (by decide) rfl ?_
  intro p e s m args below meth c s₁ B hml hv
  obtain ⟨rfl, hsz, hP, hK, hN⟩ := hv
  have hx := B.exec
  have hb := B.bytes
  have hr := B.returns
  have hts0 := atoms_spec (ws := mws MX7_init) B.pre
  have hts : ∀ w ∈ tbG, w.before _ s = true := fun w hw => hts0 w (List.mem_cons_of_mem _ hw)
  have hown : s.vm.findClass RX7 = some m.cls := findClass_of_methodNamed B.named
  have hin : meth.name = "<init>" := (name_of_methodNamed B.named B.method).1
  have hA : ∀ q : Nat, s.heap.size ≤ q → b ≤ q := fun q h => by omega
  have hD : va_D (fun q => b ≤ q) ([(b, .inr (7, [.null, .null, .null, .int 0]))] : va_W) := y_span (n := 1) rfl
  have hS : va_S (fun q => b ≤ q) s.heap s.heap [] := va_S.rf
  have hl := lv_entry ([.ref b]) (n := 1) (Nat.le_of_ble_eq_true rfl)
  rw [lg_entry_eq]
  generalize (lg_sl ([.ref b]) ++ List.replicate (1 - (lg_sl ([.ref b])).length) Slot.unset).toArray = ls at hl ⊢
  have hl : lv_has ls 1 [(0, .ref b)] := hl
  refine lv_aload_n hx hb (dk zX7_init 0 rfl) rfl (lv_at hl 0 rfl) ?_
  refine W.objInit hx hb hown (hts _ wk_obj7) (hts _ wk_oi) (hts _ wk_oc) rfl (by rw [hml]; exact hl.1) rfl (dk zX7_init 1 rfl) (Nat.le_of_ble_eq_true rfl) (Nat.le_of_ble_eq_true rfl) ?_
  refine W.eq (g2 := F0 m 4 ls []) rfl ?_
  refine lv_aload_n hx hb (dk zX7_init 2 rfl) rfl (lv_at hl 0 rfl) ?_
  refine lv_iconst hx hb (dk zX7_init 3 rfl) (v := 4) rfl ?_
  refine lv_bipush hx hb (dk zX7_init 4 rfl) (v := 60) rfl ?_
  refine y_mna (own := RX7) (index := 9) (ty := .int) (qa := 4) (qk := 0) (a0 := (60, .inl (fun _ => 0))) (N := 4) (K := 60) hx hb hown (hts _ wk_cl7_9) (nn_oi hN) (hts _ wk_ai) hK rfl rfl (fun _ _ h => h) hP hD hS hA (fun cA => rfl) (by decide) (by decide) (by decide) (by decide) (Nat.le_of_ble_eq_true rfl) (Nat.le_of_ble_eq_true rfl) (Nat.le_of_ble_eq_true rfl) rfl (Nat.le_of_ble_eq_true rfl) (Nat.le_of_ble_eq_true rfl) hsz (dk zX7_init 5 rfl) (fun H4 l4 z4 hP4 hD4 hS4 => ?_)
  replace hP4 : va_P E.2.1 classes [(b, .inr (7, [.null, .null, .null, .int 0])), (b + 1, .inl (E.2.2.1 24, 4, .inr (.inr (.inr (.inr (fun j => some (b + 1 + 1 + j))))))), (b + 2, .inl (E.2.2.1 20, 60, .inl (fun _ => 0))), (b + 3, .inl (E.2.2.1 20, 60, .inl (fun _ => 0))), (b + 4, .inl (E.2.2.1 20, 60, .inl (fun _ => 0))), (b + 5, .inl (E.2.2.1 20, 60, .inl (fun _ => 0)))] H4 := hP4
  replace hD4 : va_D (fun q => b ≤ q) ([(b, .inr (7, [.null, .null, .null, .int 0])), (b + 1, .inl (E.2.2.1 24, 4, .inr (.inr (.inr (.inr (fun j => some (b + 1 + 1 + j))))))), (b + 2, .inl (E.2.2.1 20, 60, .inl (fun _ => 0))), (b + 3, .inl (E.2.2.1 20, 60, .inl (fun _ => 0))), (b + 4, .inl (E.2.2.1 20, 60, .inl (fun _ => 0))), (b + 5, .inl (E.2.2.1 20, 60, .inl (fun _ => 0)))] : va_W) := hD4
  replace z4 : H4.size = b + 6 := z4
  clear hP hD hS
  refine va_putF hx hb (Ts := tbG) hts iG7 tyX7 tyX7_ok nmX7 hown hK hP4 hD4 (y_rf hS4) 0 (fs := [.null, .null, .null, .int 0]) rfl rfl 0 (by decide) (hts _ wk_f7_11) (fun x h => h) rfl hin rfl (ty := .array (.array .int)) rfl rfl rfl (Nat.lt_of_lt_of_le (Nat.lt_succ_self _) (Nat.le_of_ble_eq_true rfl)) (dk zX7_init 6 rfl) (fun H5 l5 hP5 hD5 hT5 => ?_)
  refine y_size (fun hle5 => ?_)
  have z5 := y_eqz hsz z4 hT5 hle5 rfl
  have hS5 := y_tr hS4 hT5
  replace hP5 : va_P E.2.1 classes [(b, .inr (7, [.ref (b + 1), .null, .null, .int 0])), (b + 1, .inl (E.2.2.1 24, 4, .inr (.inr (.inr (.inr (fun j => some (b + 1 + 1 + j))))))), (b + 2, .inl (E.2.2.1 20, 60, .inl (fun _ => 0))), (b + 3, .inl (E.2.2.1 20, 60, .inl (fun _ => 0))), (b + 4, .inl (E.2.2.1 20, 60, .inl (fun _ => 0))), (b + 5, .inl (E.2.2.1 20, 60, .inl (fun _ => 0)))] H5 := hP5
  replace hD5 : va_D (fun q => b ≤ q) ([(b, .inr (7, [.ref (b + 1), .null, .null, .int 0])), (b + 1, .inl (E.2.2.1 24, 4, .inr (.inr (.inr (.inr (fun j => some (b + 1 + 1 + j))))))), (b + 2, .inl (E.2.2.1 20, 60, .inl (fun _ => 0))), (b + 3, .inl (E.2.2.1 20, 60, .inl (fun _ => 0))), (b + 4, .inl (E.2.2.1 20, 60, .inl (fun _ => 0))), (b + 5, .inl (E.2.2.1 20, 60, .inl (fun _ => 0)))] : va_W) := hD5
  replace z5 : H5.size = b + 6 := z5
  clear hP4 hD4 hS4 z4 hT5 hle5
  refine lv_aload_n hx hb (dk zX7_init 7 rfl) rfl (lv_at hl 0 rfl) ?_
  refine lv_iconst hx hb (dk zX7_init 8 rfl) (v := 4) rfl ?_
  refine y_newa (atype := .int) (ty := .int) (qk := 0) (a0 := (4, .inl (fun _ => 0))) (N := 4) hx hb (hts _ wk_ai) rfl hK rfl hP5 hD5 hS5 hA (fun cA => rfl) (by decide) (by decide) (Nat.le_of_ble_eq_true rfl) (Nat.le_of_ble_eq_true rfl) (Nat.le_of_ble_eq_true rfl) z5 (dk zX7_init 9 rfl) (fun H8 z8 hP8 hD8 hS8 o8 => ?_)
  replace hP8 : va_P E.2.1 classes [(b, .inr (7, [.ref (b + 1), .null, .null, .int 0])), (b + 1, .inl (E.2.2.1 24, 4, .inr (.inr (.inr (.inr (fun j => some (b + 1 + 1 + j))))))), (b + 2, .inl (E.2.2.1 20, 60, .inl (fun _ => 0))), (b + 3, .inl (E.2.2.1 20, 60, .inl (fun _ => 0))), (b + 4, .inl (E.2.2.1 20, 60, .inl (fun _ => 0))), (b + 5, .inl (E.2.2.1 20, 60, .inl (fun _ => 0))), (b + 6, .inl (E.2.2.1 20, 4, .inl (fun _ => 0)))] H8 := hP8
  replace hD8 : va_D (fun q => b ≤ q) ([(b, .inr (7, [.ref (b + 1), .null, .null, .int 0])), (b + 1, .inl (E.2.2.1 24, 4, .inr (.inr (.inr (.inr (fun j => some (b + 1 + 1 + j))))))), (b + 2, .inl (E.2.2.1 20, 60, .inl (fun _ => 0))), (b + 3, .inl (E.2.2.1 20, 60, .inl (fun _ => 0))), (b + 4, .inl (E.2.2.1 20, 60, .inl (fun _ => 0))), (b + 5, .inl (E.2.2.1 20, 60, .inl (fun _ => 0))), (b + 6, .inl (E.2.2.1 20, 4, .inl (fun _ => 0)))] : va_W) := hD8
  replace z8 : H8.size = b + 7 := z8
  clear hP5 hD5 hS5 z5 o8
  refine va_putF hx hb (Ts := tbG) hts iG7 tyX7 tyX7_ok nmX7 hown hK hP8 hD8 (y_rf hS8) 0 (fs := [.ref (b + 1), .null, .null, .int 0]) rfl rfl 1 (by decide) (hts _ wk_f7_16) (fun x h => h) rfl hin rfl (ty := .array .int) rfl rfl rfl (Nat.lt_of_lt_of_le (Nat.lt_succ_self _) (Nat.le_of_ble_eq_true rfl)) (dk zX7_init 10 rfl) (fun H9 l9 hP9 hD9 hT9 => ?_)
  refine y_size (fun hle9 => ?_)
  have z9 := y_eqz hsz z8 hT9 hle9 rfl
  have hS9 := y_tr hS8 hT9
  replace hP9 : va_P E.2.1 classes [(b, .inr (7, [.ref (b + 1), .ref (b + 6), .null, .int 0])), (b + 1, .inl (E.2.2.1 24, 4, .inr (.inr (.inr (.inr (fun j => some (b + 1 + 1 + j))))))), (b + 2, .inl (E.2.2.1 20, 60, .inl (fun _ => 0))), (b + 3, .inl (E.2.2.1 20, 60, .inl (fun _ => 0))), (b + 4, .inl (E.2.2.1 20, 60, .inl (fun _ => 0))), (b + 5, .inl (E.2.2.1 20, 60, .inl (fun _ => 0))), (b + 6, .inl (E.2.2.1 20, 4, .inl (fun _ => 0)))] H9 := hP9
  replace hD9 : va_D (fun q => b ≤ q) ([(b, .inr (7, [.ref (b + 1), .ref (b + 6), .null, .int 0])), (b + 1, .inl (E.2.2.1 24, 4, .inr (.inr (.inr (.inr (fun j => some (b + 1 + 1 + j))))))), (b + 2, .inl (E.2.2.1 20, 60, .inl (fun _ => 0))), (b + 3, .inl (E.2.2.1 20, 60, .inl (fun _ => 0))), (b + 4, .inl (E.2.2.1 20, 60, .inl (fun _ => 0))), (b + 5, .inl (E.2.2.1 20, 60, .inl (fun _ => 0))), (b + 6, .inl (E.2.2.1 20, 4, .inl (fun _ => 0)))] : va_W) := hD9
  replace z9 : H9.size = b + 7 := z9
  clear hP8 hD8 hS8 z8 hT9 hle9
  refine lv_aload_n hx hb (dk zX7_init 11 rfl) rfl (lv_at hl 0 rfl) ?_
  refine lv_iconst hx hb (dk zX7_init 12 rfl) (v := 4) rfl ?_
  refine y_newa (atype := .int) (ty := .int) (qk := 0) (a0 := (4, .inl (fun _ => 0))) (N := 4) hx hb (hts _ wk_ai) rfl hK rfl hP9 hD9 hS9 hA (fun cA => rfl) (by decide) (by decide) (Nat.le_of_ble_eq_true rfl) (Nat.le_of_ble_eq_true rfl) (Nat.le_of_ble_eq_true rfl) z9 (dk zX7_init 13 rfl) (fun H12 z12 hP12 hD12 hS12 o12 => ?_)
  replace hP12 : va_P E.2.1 classes [(b, .inr (7, [.ref (b + 1), .ref (b + 6), .null, .int 0])), (b + 1, .inl (E.2.2.1 24, 4, .inr (.inr (.inr (.inr (fun j => some (b + 1 + 1 + j))))))), (b + 2, .inl (E.2.2.1 20, 60, .inl (fun _ => 0))), (b + 3, .inl (E.2.2.1 20, 60, .inl (fun _ => 0))), (b + 4, .inl (E.2.2.1 20, 60, .inl (fun _ => 0))), (b + 5, .inl (E.2.2.1 20, 60, .inl (fun _ => 0))), (b + 6, .inl (E.2.2.1 20, 4, .inl (fun _ => 0))), (b + 7, .inl (E.2.2.1 20, 4, .inl (fun _ => 0)))] H12 := hP12
  replace hD12 : va_D (fun q => b ≤ q) ([(b, .inr (7, [.ref (b + 1), .ref (b + 6), .null, .int 0])), (b + 1, .inl (E.2.2.1 24, 4, .inr (.inr (.inr (.inr (fun j => some (b + 1 + 1 + j))))))), (b + 2, .inl (E.2.2.1 20, 60, .inl (fun _ => 0))), (b + 3, .inl (E.2.2.1 20, 60, .inl (fun _ => 0))), (b + 4, .inl (E.2.2.1 20, 60, .inl (fun _ => 0))), (b + 5, .inl (E.2.2.1 20, 60, .inl (fun _ => 0))), (b + 6, .inl (E.2.2.1 20, 4, .inl (fun _ => 0))), (b + 7, .inl (E.2.2.1 20, 4, .inl (fun _ => 0)))] : va_W) := hD12
  replace z12 : H12.size = b + 8 := z12
  clear hP9 hD9 hS9 z9 o12
  refine va_putF hx hb (Ts := tbG) hts iG7 tyX7 tyX7_ok nmX7 hown hK hP12 hD12 (y_rf hS12) 0 (fs := [.ref (b + 1), .ref (b + 6), .null, .int 0]) rfl rfl 2 (by decide) (hts _ wk_f7_20) (fun x h => h) rfl hin rfl (ty := .array .int) rfl rfl rfl (Nat.lt_of_lt_of_le (Nat.lt_succ_self _) (Nat.le_of_ble_eq_true rfl)) (dk zX7_init 14 rfl) (fun H13 l13 hP13 hD13 hT13 => ?_)
  refine y_size (fun hle13 => ?_)
  have z13 := y_eqz hsz z12 hT13 hle13 rfl
  have hS13 := y_tr hS12 hT13
  replace hP13 : va_P E.2.1 classes [(b, .inr (7, [.ref (b + 1), .ref (b + 6), .ref (b + 7), .int 0])), (b + 1, .inl (E.2.2.1 24, 4, .inr (.inr (.inr (.inr (fun j => some (b + 1 + 1 + j))))))), (b + 2, .inl (E.2.2.1 20, 60, .inl (fun _ => 0))), (b + 3, .inl (E.2.2.1 20, 60, .inl (fun _ => 0))), (b + 4, .inl (E.2.2.1 20, 60, .inl (fun _ => 0))), (b + 5, .inl (E.2.2.1 20, 60, .inl (fun _ => 0))), (b + 6, .inl (E.2.2.1 20, 4, .inl (fun _ => 0))), (b + 7, .inl (E.2.2.1 20, 4, .inl (fun _ => 0)))] H13 := hP13
  replace hD13 : va_D (fun q => b ≤ q) ([(b, .inr (7, [.ref (b + 1), .ref (b + 6), .ref (b + 7), .int 0])), (b + 1, .inl (E.2.2.1 24, 4, .inr (.inr (.inr (.inr (fun j => some (b + 1 + 1 + j))))))), (b + 2, .inl (E.2.2.1 20, 60, .inl (fun _ => 0))), (b + 3, .inl (E.2.2.1 20, 60, .inl (fun _ => 0))), (b + 4, .inl (E.2.2.1 20, 60, .inl (fun _ => 0))), (b + 5, .inl (E.2.2.1 20, 60, .inl (fun _ => 0))), (b + 6, .inl (E.2.2.1 20, 4, .inl (fun _ => 0))), (b + 7, .inl (E.2.2.1 20, 4, .inl (fun _ => 0)))] : va_W) := hD13
  replace z13 : H13.size = b + 8 := z13
  clear hP12 hD12 hS12 z12 hT13 hle13
  refine lv_aload_n hx hb (dk zX7_init 15 rfl) rfl (lv_at hl 0 rfl) ?_
  refine va_get hx hb (Ts := tbG) hts iG7 hown hK hP13 0 (fs := [.ref (b + 1), .ref (b + 6), .ref (b + 7), .int 0]) rfl rfl 2 (by decide) (hts _ wk_f7_20) (fun x h => h) rfl (dk zX7_init 16 rfl) ?_
  refine lv_iconst hx hb (dk zX7_init 17 rfl) (v := -1) rfl ?_
  refine va_callv (va_runS (As := [.ref (b + 7), .int (-1)]) (rest := []) ⟨hx, hb, hml, hown, hts⟩ (n_fill E (b + 7) (-1) (fun _ => 0)) ⟨callB_of 2 hts (mws_good (M := MJ7_fill_53178) wcJ7_fill_53178) rfl rfl rfl (hts _ wi16) (hts _ wlRX7_23) ⟨nh16.1, nh16.2, by decide +kernel⟩ ⟨Nat.le_of_ble_eq_true rfl, Nat.le_of_ble_eq_true rfl⟩, hts _ wsJ7_fill_53178⟩ ⟨fun a U g mk q => ?_, fun U hU hW => ⟨rfl, by rw [hU]; exact hP13.sub [7] rfl, va_K.moved hW.alike hK⟩⟩ rfl rfl hl.1 rfl (lv_room (Nat.le_of_ble_eq_true rfl)) (dk zX7_init 18 rfl) ⟨Nat.le_of_ble_eq_true rfl, Nat.le_of_ble_eq_true rfl⟩) hS13 (fun q _ h => by have h : q = b + 7 := h; show b ≤ q; omega) (fun q h => by have h : q = b + 7 := h; subst h; exact Nat.le_add_right b 7) (fun u t H17 l17 ht hvm _ hB hz17 hk17 hS17 => ?_)
  · obtain ⟨q0, qP, qK⟩ := q
    exact ⟨q0, qP, va_K.moved (u := U) (U := U.calling g mk a) (Vm.Alike.refl U.vm) qK⟩
  rw [ht] at hB
  refine y_size (fun hle17 => ?_)
  have z17 : H17.size = b + 8 := by omega
  have hP17 := hP13.set hD13 (p := 7) rfl (hB 0 _ rfl) (H1 := H17) (fun q hq => by
    by_cases w : q < H13.size
    · exact hk17 q w hq
    · rw [Array.getElem?_eq_none (by omega), Array.getElem?_eq_none (by omega)])
  have hD17 := hD13.set (p := 7) (e := .inl (E.2.2.1 20, 4, .inl (fun _ => -1))) rfl
  replace hP17 : va_P E.2.1 classes [(b, .inr (7, [.ref (b + 1), .ref (b + 6), .ref (b + 7), .int 0])), (b + 1, .inl (E.2.2.1 24, 4, .inr (.inr (.inr (.inr (fun j => some (b + 1 + 1 + j))))))), (b + 2, .inl (E.2.2.1 20, 60, .inl (fun _ => 0))), (b + 3, .inl (E.2.2.1 20, 60, .inl (fun _ => 0))), (b + 4, .inl (E.2.2.1 20, 60, .inl (fun _ => 0))), (b + 5, .inl (E.2.2.1 20, 60, .inl (fun _ => 0))), (b + 6, .inl (E.2.2.1 20, 4, .inl (fun _ => 0))), (b + 7, .inl (E.2.2.1 20, 4, .inl (fun _ => -1)))] H17 := hP17
  replace hD17 : va_D (fun q => b ≤ q) ([(b, .inr (7, [.ref (b + 1), .ref (b + 6), .ref (b + 7), .int 0])), (b + 1, .inl (E.2.2.1 24, 4, .inr (.inr (.inr (.inr (fun j => some (b + 1 + 1 + j))))))), (b + 2, .inl (E.2.2.1 20, 60, .inl (fun _ => 0))), (b + 3, .inl (E.2.2.1 20, 60, .inl (fun _ => 0))), (b + 4, .inl (E.2.2.1 20, 60, .inl (fun _ => 0))), (b + 5, .inl (E.2.2.1 20, 60, .inl (fun _ => 0))), (b + 6, .inl (E.2.2.1 20, 4, .inl (fun _ => 0))), (b + 7, .inl (E.2.2.1 20, 4, .inl (fun _ => -1)))] : va_W) := hD17
  replace z17 : H17.size = b + 8 := z17
  clear hP13 hD13 hS13 z13 hz17 hk17 hle17 hvm hB ht
  exact W.vret hx hb hr (fun t ht hW => ⟨⟨(), rfl, trivial, by rw [ht]; exact z17, by rw [ht]; exact hP17⟩, hS17.F ht⟩) hS17.2.2 (dk zX7_init 19 rfl)
end CN7
