theorem w_11_123 (E : EV) : mk E [123, 124, 125, 126, 127, 128, 129, 130, 131, 132, 133, 134, 135, 136, 137, 138, 139, 140, 141, 142, 143, 144, 145, 146, 147] = [(E.2.2.2 + 123, .inr (11, [.ref (E.2.2.2 + 124), .ref (E.2.2.2 + 125), .ref (E.2.2.2 + 126), .ref (E.2.2.2 + 127), .int 0, .ref (E.2.2.2 + 128), .ref (E.2.2.2 + 129), .int 0, .int 0, .ref (E.2.2.2 + 130), .ref (E.2.2.2 + 131), .ref (E.2.2.2 + 132), .int 0, .int 0, .ref (E.2.2.2 + 133), .ref (E.2.2.2 + 134), .int 0, .ref (E.2.2.2 + 135), .ref (E.2.2.2 + 136), .ref (E.2.2.2 + 137), .int 0, .int 0, .long 0, .int 0, .ref (E.2.2.2 + 138), .ref (E.2.2.2 + 139), .ref (E.2.2.2 + 140), .ref (E.2.2.2 + 141), .int 0, .ref (E.2.2.2 + 142), .ref (E.2.2.2 + 143), .ref (E.2.2.2 + 144), .ref (E.2.2.2 + 145), .ref (E.2.2.2 + 146), .ref (E.2.2.2 + 147)])), (E.2.2.2 + 124, .inl (E.2.2.1 20, 4, .inl (fun _ => -1))), (E.2.2.2 + 125, .inl (E.2.2.1 20, 4, .inl (fun _ => 0))), (E.2.2.2 + 126, .inl (E.2.2.1 20, 240, .inl (fun _ => 0))), (E.2.2.2 + 127, .inl (E.2.2.1 20, 60, .inl (fun _ => 0))), (E.2.2.2 + 128, .inl (E.2.2.1 20, 140, .inl (fun _ => 0))), (E.2.2.2 + 129, .inl (E.2.2.1 20, 4, .inl (fun _ => 0))), (E.2.2.2 + 130, .inl (E.2.2.1 20, 9, .inl (fun _ => 0))), (E.2.2.2 + 131, .inl (E.2.2.1 20, 9, .inl (fun _ => 0))), (E.2.2.2 + 132, .inl (E.2.2.1 22, 9, .inl (fun _ => 0))), (E.2.2.2 + 133, .inl (E.2.2.1 20, 120, .inl (fun _ => 0))), (E.2.2.2 + 134, .inl (E.2.2.1 20, 2, .inl (fun _ => 0))), (E.2.2.2 + 135, .inl (E.2.2.1 20, 64, .inl (fun _ => 0))), (E.2.2.2 + 136, .inl (E.2.2.1 21, 64, .inr (.inl (fun _ => 0)))), (E.2.2.2 + 137, .inl (E.2.2.1 20, 120, .inl (fun _ => 0))), (E.2.2.2 + 138, .inl (E.2.2.1 20, 96, .inl (fun _ => 0))), (E.2.2.2 + 139, .inl (E.2.2.1 21, 15808, .inr (.inl (fun _ => 0)))), (E.2.2.2 + 140, .inl (E.2.2.1 21, 13, .inr (.inl (fun _ => 0)))), (E.2.2.2 + 141, .inl (E.2.2.1 21, 13, .inr (.inl (fun _ => 0)))), (E.2.2.2 + 142, .inl (E.2.2.1 20, 720, .inl (fun _ => 0))), (E.2.2.2 + 143, .inl (E.2.2.1 20, 12, .inl (fun _ => 0))), (E.2.2.2 + 144, .inl (E.2.2.1 22, 12, .inl (fun _ => 0))), (E.2.2.2 + 145, .inl (E.2.2.1 20, 11, .inl (fun _ => 0))), (E.2.2.2 + 146, .inl (E.2.2.1 20, 64, .inl (fun _ => 0))), (E.2.2.2 + 147, .inl (E.2.2.1 20, 64, .inl (fun _ => 0)))] := (mk_cons E 123 _ rfl rfl (mk_cons E 124 _ rfl (k_neg E rfl rfl (fun _ => rfl)) (mk_cons E 125 _ rfl (k_int E rfl rfl (fun _ => rfl)) (mk_cons E 126 _ rfl (k_int E rfl rfl (fun _ => rfl)) (mk_cons E 127 _ rfl (k_int E rfl rfl (fun _ => rfl)) (mk_cons E 128 _ rfl (k_int E rfl rfl (fun _ => rfl)) (mk_cons E 129 _ rfl (k_int E rfl rfl (fun _ => rfl)) (mk_cons E 130 _ rfl (k_int E rfl rfl (fun _ => rfl)) (mk_cons E 131 _ rfl (k_int E rfl rfl (fun _ => rfl)) (mk_cons E 132 _ rfl (k_bool E rfl rfl (fun _ => rfl)) (mk_cons E 133 _ rfl (k_int E rfl rfl (fun _ => rfl)) (mk_cons E 134 _ rfl (k_int E rfl rfl (fun _ => rfl)) (mk_cons E 135 _ rfl (k_int E rfl rfl (fun _ => rfl)) (mk_cons E 136 _ rfl (k_long E rfl rfl) (mk_cons E 137 _ rfl (k_int E rfl rfl (fun _ => rfl)) (mk_cons E 138 _ rfl (k_int E rfl rfl (fun _ => rfl)) (mk_cons E 139 _ rfl (k_long E rfl rfl) (mk_cons E 140 _ rfl (k_long E rfl rfl) (mk_cons E 141 _ rfl (k_long E rfl rfl) (mk_cons E 142 _ rfl (k_int E rfl rfl (fun _ => rfl)) (mk_cons E 143 _ rfl (k_int E rfl rfl (fun _ => rfl)) (mk_cons E 144 _ rfl (k_bool E rfl rfl (fun _ => rfl)) (mk_cons E 145 _ rfl (k_int E rfl rfl (fun _ => rfl)) (mk_cons E 146 _ rfl (k_int E rfl rfl (fun _ => rfl)) (mk_cons E 147 _ rfl (k_int E rfl rfl (fun _ => rfl)) rfl)))))))))))))))))))))))))
theorem k_11_123 (E : EV) : Cn E MX11_init (E.2.2.2 + 123) [] 11 [.null, .null, .null, .null, .int 0, .null, .null, .int 0, .int 0, .null, .null, .null, .int 0, .int 0, .null, .null, .int 0, .null, .null, .null, .int 0, .int 0, .long 0, .int 0, .null, .null, .null, .null, .int 0, .null, .null, .null, .null, .null, .null] 24 17662 (mk E [123, 124, 125, 126, 127, 128, 129, 130, 131, 132, 133, 134, 135, 136, 137, 138, 139, 140, 141, 142, 143, 144, 145, 146, 147]) := by
  rw [w_11_123]
  exact n_X11 E (E.2.2.2 + 123)
theorem wk_cd10 : Cond.code yX10_init cX10_init 2 none ∈ tbG := tb_at 21 (by decide +kernel) (by decide +kernel)
theorem wk_in10 : Cond.initialized RX10 ∈ tbG := tb_at 1 (by decide +kernel) (by decide +kernel)
theorem wk_is10 : Cond.instantiable RX10 12 ∈ tbG := tb_at 18 (by decide +kernel) (by decide +kernel)
theorem wk_im10 : Cond.instanceMethod yX10_init ∈ tbG := tb_at 20 (by decide +kernel) (by decide +kernel)
theorem wk_clL_7 : Cond.classLink R_law 7 RX10 ∈ tbG := tb_at 17 (by decide +kernel) (by decide +kernel)
theorem wk_clL_10 : Cond.classLink R_law 10 RX11 ∈ tbG := tb_at 1018 (by decide +kernel) (by decide +kernel)
theorem wk_mlL_9 : Cond.methodLink R_law 9 yX10_init ∈ tbG := tb_at 19 (by decide +kernel) (by decide +kernel)
theorem wk_mlL_12 : Cond.methodLink R_law 12 yX11_init ∈ tbG := tb_at 1020 (by decide +kernel) (by decide +kernel)
section START
variable {s : State} {args : Array Value}
theorem nn_start (hts : ∀ w ∈ lw_tbl, w.before args s = true) : nn s :=
  ⟨List.forall_mem_cons.mpr ⟨va_Nw.of (A := args) rfl (hts _ (List.mem_append_right _ (List.mem_of_getElem? (i := 27) (by decide +kernel)))), List.forall_mem_cons.mpr ⟨va_Nw.of (A := args) rfl (hts _ (List.mem_append_right _ (List.mem_of_getElem? (i := 55) (by decide +kernel)))), List.forall_mem_cons.mpr ⟨va_Nw.of (A := args) rfl (hts _ (List.mem_append_right _ (List.mem_of_getElem? (i := 192) (by decide +kernel)))), List.forall_mem_cons.mpr ⟨va_Nw.of (A := args) rfl (hts _ (List.mem_append_right _ (List.mem_of_getElem? (i := 213) (by decide +kernel)))), List.forall_mem_cons.mpr ⟨va_Nw.of (A := args) rfl (hts _ (List.mem_append_right _ (List.mem_of_getElem? (i := 73) (by decide +kernel)))), List.forall_mem_cons.mpr ⟨va_Nw.of (A := args) rfl (hts _ (List.mem_append_right _ (List.mem_of_getElem? (i := 144) (by decide +kernel)))), List.forall_mem_cons.mpr ⟨va_Nw.of (A := args) rfl (hts _ (List.mem_append_right _ (List.mem_of_getElem? (i := 101) (by decide +kernel)))), List.forall_mem_cons.mpr ⟨va_Nw.of (A := args) rfl (hts _ (List.mem_append_right _ (List.mem_of_getElem? (i := 165) (by decide +kernel)))), fun _ h => absurd h List.not_mem_nil⟩⟩⟩⟩⟩⟩⟩⟩, over_moved (Vm.Alike.refl _) (hts (.arrayOver (.array .int)) (List.mem_append_right _ (List.mem_of_getElem? (i := 106) (by decide +kernel)))), over_moved (Vm.Alike.refl _) (hts (.arrayOver (.array .long)) (List.mem_append_right _ (List.mem_of_getElem? (i := 167) (by decide +kernel)))), va_AO.of (A := args) (hts (.arrayOver (.object "StampsCancel$Text")) (List.mem_append_right _ (List.mem_of_getElem? (i := 52) (by decide +kernel))))⟩
theorem nw_start (hts : ∀ w ∈ lw_tbl, w.before args s = true) : nw s := ⟨va_Nw.of (A := args) rfl (hts _ (List.mem_append_right _ (List.mem_of_getElem? (i := 584) (by decide +kernel)))), va_Nw.of (A := args) rfl (hts _ (List.mem_append_right _ (List.mem_of_getElem? (i := 597) (by decide +kernel)))), va_Nw.of (A := args) rfl (hts _ (List.mem_append_right _ (List.mem_of_getElem? (i := 708) (by decide +kernel))))⟩
theorem kd_start (hts : ∀ w ∈ tbG, w.before args s = true) : ∃ (dC : Nat → ClassId) (dI : Nat → Nat → Nat), ∀ (k : Nat) (q : vw_C), classes[k]? = some q → u_Kn s q.1 q.2.1 q.2.2 (dC k) (dI k) := by
  obtain ⟨c0, i0, h0⟩ := u_known (C := RX0) (T := TX0) (N := 3) (n := 3) hts iG0 (hts _ wk_is0)
  obtain ⟨c1, i1, h1⟩ := u_known (C := RX1) (T := TX1) (N := 4) (n := 4) hts iG1 (hts _ wk_is1)
  obtain ⟨c2, i2, h2⟩ := u_known (C := RX2) (T := TX2) (N := 6) (n := 6) hts iG2 (hts _ wk_is2)
  obtain ⟨c3, i3, h3⟩ := u_known (C := RX3) (T := TX3) (N := 6) (n := 6) hts iG3 (hts _ wk_is3)
  obtain ⟨c4, i4, h4⟩ := u_known (C := RX4) (T := TX4) (N := 5) (n := 5) hts iG4 (hts _ wk_is4)
  obtain ⟨c5, i5, h5⟩ := u_known (C := RX5) (T := TX5) (N := 2) (n := 2) hts iG5 (hts _ wk_is5)
  obtain ⟨c6, i6, h6⟩ := u_known (C := RX6) (T := TX6) (N := 6) (n := 6) hts iG6 (hts _ wk_is6)
  obtain ⟨c7, i7, h7⟩ := u_known (C := RX7) (T := TX7) (N := 4) (n := 4) hts iG7 (hts _ wk_is7)
  obtain ⟨c8, i8, h8⟩ := u_known (C := RX8) (T := TX8) (N := 3) (n := 3) hts iG8 (hts _ wk_is8)
  obtain ⟨c9, i9, h9⟩ := u_known (C := RX9) (T := TX9) (N := 7) (n := 7) hts iG9 (hts _ wk_is9)
  obtain ⟨c10, i10, h10⟩ := u_known (C := RX10) (T := TX10) (N := 12) (n := 12) hts iG10 (hts _ wk_is10)
  obtain ⟨c11, i11, h11⟩ := u_known (C := RX11) (T := TX11) (N := 35) (n := 35) hts iG11 (hts _ wk_is11)
  refine ⟨fun k => [c0, c1, c2, c3, c4, c5, c6, c7, c8, c9, c10, c11].getD k c0, fun k => [i0, i1, i2, i3, i4, i5, i6, i7, i8, i9, i10, i11].getD k i0, ?_⟩
  intro k q hq
  match k, hq with
  | 0, hq => cases hq; exact h0
  | 1, hq => cases hq; exact h1
  | 2, hq => cases hq; exact h2
  | 3, hq => cases hq; exact h3
  | 4, hq => cases hq; exact h4
  | 5, hq => cases hq; exact h5
  | 6, hq => cases hq; exact h6
  | 7, hq => cases hq; exact h7
  | 8, hq => cases hq; exact h8
  | 9, hq => cases hq; exact h9
  | 10, hq => cases hq; exact h10
  | 11, hq => cases hq; exact h11
  | k + 12, hq => simp [classes] at hq
theorem pa_start {ty : FieldType} (h : (Cond.arrayClass ty).before args s = true) (hRA : ∀ c0 : ClassId, s.vm.findClass (FieldType.array ty).toString = some c0 → va_RA s c0 ty) : ∃ c0 : ClassId, ArrOfT s c0 ty ∧ va_RA s c0 ty := by
  obtain ⟨c0, kC, ce', h1, h2, h3⟩ := Cond.arrayClass_spec h
  exact ⟨c0, fun n z => ⟨fun k h => (by cases h), kC, h2, ce', h3⟩, hRA c0 h1⟩
theorem aa_start {ty : FieldType} (h : (Cond.arrayOver (.array ty)).before args s = true) : ∃ c0 : ClassId, ArrOfT s c0 (.array ty) ∧ va_RA s c0 (.array ty) := by
  obtain ⟨comp, c0, k, h1, h2, h3, h4, h5⟩ := arrayOverA_spec h
  exact ⟨c0, fun n z => ⟨fun k h => (by cases h), k, h3, comp, h4⟩, h5⟩
theorem ao_start {C : String} (h : (Cond.arrayOver (.object C)).before args s = true) : ∃ c0 : ClassId, ArrOfT s c0 (.object C) ∧ va_RA s c0 (.object C) := by
  obtain ⟨comp, c0, k, h1, h2, h3, h4, h5⟩ := Cond.arrayOver_spec h
  exact ⟨c0, fun n z => ⟨fun k h => (by cases h), k, h3, comp, h4⟩, k, comp, h3, h4, h1, h5⟩
theorem kk_start (hts : ∀ w ∈ tbG, w.before args s = true) (hN : nn s) : ∃ (D : va_G) (cA : Nat → ClassId), ∀ (l : Launch) (sz : Nat), va_K D classes (tys (l, D, cA, sz)) s := by
  obtain ⟨dC, dI, hD⟩ := kd_start hts
  obtain ⟨a0, g0⟩ := pa_start (hts _ wk_ai) (fun c0 h => h)
  obtain ⟨a1, g1⟩ := pa_start (hts _ wk_al) (fun c0 h => h)
  obtain ⟨a2, g2⟩ := pa_start (hts _ wk_ab) (fun c0 h => h)
  obtain ⟨a3, g3⟩ := ao_start (args := args) (nn_ot hN)
  obtain ⟨a4, g4⟩ := aa_start (args := args) (nn_oi hN)
  obtain ⟨a5, g5⟩ := aa_start (args := args) (nn_ol hN)
  refine ⟨(dC, dI), fun k => if k = 20 then a0 else if k = 21 then a1 else if k = 22 then a2 else if k = 23 then a3 else if k = 24 then a4 else a5, fun l sz => ⟨hD, fun k q hk => ?_⟩⟩
  match k, hk with
  | 0, hk => cases hk; exact g0
  | 1, hk => cases hk; exact g1
  | 2, hk => cases hk; exact g2
  | 3, hk => cases hk; exact g3
  | 4, hk => cases hk; exact g4
  | 5, hk => cases hk; exact g5
  | k + 6, hk => simp [tys] at hk
end START
set_option maxHeartbeats 4000000 in
set_option maxRecDepth 100000 in
theorem whole_E {p : Program} {e : Env} {s : State} {m : MethodId} {below : List Frame} {meth : Method} {c : Code} (E : EV) {b L : Nat} {xs : Nat → Int32} (hL : L ≤ 3072) (C0 : lw_At p s m meth c b L xs) (hE : E.2.2.2 = s.heap.size) (hK : va_K E.2.1 classes (tys E) s) (hN : nn s) (hW : nw s) : W p E.1 e room_1 s m #[Value.ref b] below meth c s.heap [] 0 0 (lw_Z below #[Value.ref b] s) (entryFrame m ([Value.ref b] : List Value).toArray 4) := by
  obtain ⟨hx, hb, hr, hml, hown, hts0, hX, hbl, hlocks, hgv⟩ := id C0
  have hts := L_hts C0
  have hA : ∀ q : Nat, s.heap.size ≤ q → Fz E q := fun q h => by show E.2.2.2 ≤ q; omega
  have hP : va_P E.2.1 classes [] s.heap := fun k q h => by simp at h
  have hD : va_D (Fz E) [] := ⟨fun i j p q h => by simp at h, fun k q h => by simp at h⟩
  have hS : va_S (Fz E) s.heap s.heap [] := va_S.rf
  have hl := lv_entry ([.ref b]) (n := 4) (Nat.le_of_ble_eq_true rfl)
  rw [lg_entry_eq]
  generalize (lg_sl ([.ref b]) ++ List.replicate (4 - (lg_sl ([.ref b])).length) Slot.unset).toArray = ls at hl ⊢
  have hl : lv_has ls 4 [(0, .ref b)] := hl
  refine y_new (own := R_law) (C := RX10) (T := TX10) (N := 12) (ci := 10) (index := 7) (h := E.2.2.2) (fs := [.null, .null, .null, .null, .null, .null, .null, .null, .null, .null, .null, .null]) hx hb hts iG10 tyX10 tyX10_ok hown (hts _ wk_clL_7) (hts _ wk_is10) (hts _ wk_in10) hK hP hD hS hA rfl (fun j hj => by
    rcases (show j = 0 ∨ j = 1 ∨ j = 2 ∨ j = 3 ∨ j = 4 ∨ j = 5 ∨ j = 6 ∨ j = 7 ∨ j = 8 ∨ j = 9 ∨ j = 10 ∨ j = 11 by omega) with rfl | rfl | rfl | rfl | rfl | rfl | rfl | rfl | rfl | rfl | rfl | rfl <;> rfl) (Nat.le_of_ble_eq_true rfl) (Nat.le_of_ble_eq_true rfl) hE.symm (dk zLw0 0 rfl) (fun H1 z1 hP1 hD1 hS1 o1 => ?_)
  refine lv_dup hx hb (dk zLw0 1 rfl) rfl ?_
  refine y_initL (own := R_law) (as := []) (rest := [.ref E.2.2.2]) hx hb hml hown hts hN hK (n_X10 E) wk_mlL_9 wk_cd10 wk_in10 wk_im10 rfl ⟨by decide, by decide, by decide +kernel⟩ ⟨Nat.le_of_ble_eq_true rfl, Nat.le_of_ble_eq_true rfl⟩ hl.1 (Nat.le_of_ble_eq_true rfl) (dk zLw0 2 rfl) ⟨Nat.le_of_ble_eq_true rfl, Nat.le_of_ble_eq_true rfl⟩ hP1 hD1 hS1 (fun q h => h) z1 (by unfold mk; rw [List.map_map]; rfl) (fun H2 l2 z2 hP2 hD2 hS2 => ?_)
  replace hP2 : va_P E.2.1 classes (mk E (List.range 123)) H2 := hP2
  replace hD2 : va_D (Fz E) (mk E (List.range 123)) := hD2
  replace z2 : H2.size = E.2.2.2 + 123 := z2
  refine lv_astore_n (lv' := [(1, .ref E.2.2.2), (0, .ref b)]) hx hb (dk zLw0 3 rfl) rfl hl (by decide) rfl (fun ls hl => ?_)
  refine y_new (own := R_law) (C := RX11) (T := TX11) (N := 35) (ci := 11) (index := 10) (h := E.2.2.2 + 123) (fs := [.null, .null, .null, .null, .int 0, .null, .null, .int 0, .int 0, .null, .null, .null, .int 0, .int 0, .null, .null, .int 0, .null, .null, .null, .int 0, .int 0, .long 0, .int 0, .null, .null, .null, .null, .int 0, .null, .null, .null, .null, .null, .null]) hx hb hts iG11 tyX11 tyX11_ok hown (hts _ wk_clL_10) (hts _ wk_is11) (hts _ wk_in11) hK hP2 hD2 hS2 hA rfl (fun j hj => by
    rcases (show j = 0 ∨ j = 1 ∨ j = 2 ∨ j = 3 ∨ j = 4 ∨ j = 5 ∨ j = 6 ∨ j = 7 ∨ j = 8 ∨ j = 9 ∨ j = 10 ∨ j = 11 ∨ j = 12 ∨ j = 13 ∨ j = 14 ∨ j = 15 ∨ j = 16 ∨ j = 17 ∨ j = 18 ∨ j = 19 ∨ j = 20 ∨ j = 21 ∨ j = 22 ∨ j = 23 ∨ j = 24 ∨ j = 25 ∨ j = 26 ∨ j = 27 ∨ j = 28 ∨ j = 29 ∨ j = 30 ∨ j = 31 ∨ j = 32 ∨ j = 33 ∨ j = 34 by omega) with rfl | rfl | rfl | rfl | rfl | rfl | rfl | rfl | rfl | rfl | rfl | rfl | rfl | rfl | rfl | rfl | rfl | rfl | rfl | rfl | rfl | rfl | rfl | rfl | rfl | rfl | rfl | rfl | rfl | rfl | rfl | rfl | rfl | rfl | rfl <;> rfl) (Nat.le_of_ble_eq_true rfl) (Nat.le_of_ble_eq_true rfl) z2 (dk zLw0 4 rfl) (fun H3 z3 hP3 hD3 hS3 o3 => ?_)
  refine lv_dup hx hb (dk zLw0 5 rfl) rfl ?_
  refine y_initL (own := R_law) (as := []) (rest := [.ref (E.2.2.2 + 123)]) hx hb hml hown hts hN hK (k_11_123 E) wk_mlL_12 wk_cd11 wk_in11 wk_im11 rfl ⟨by decide, by decide, by decide +kernel⟩ ⟨Nat.le_of_ble_eq_true rfl, Nat.le_of_ble_eq_true rfl⟩ hl.1 (Nat.le_of_ble_eq_true rfl) (dk zLw0 6 rfl) ⟨Nat.le_of_ble_eq_true rfl, Nat.le_of_ble_eq_true rfl⟩ hP3 hD3 hS3 (fun q h => by show E.2.2.2 ≤ q; omega) z3 rfl (fun H4 l4 z4 hP4 hD4 hS4 => ?_)
  have ew : mk E (List.range 123) ++ mk E [123, 124, 125, 126, 127, 128, 129, 130, 131, 132, 133, 134, 135, 136, 137, 138, 139, 140, 141, 142, 143, 144, 145, 146, 147] = wd E m0 := by
    unfold mk wd
    rw [← List.map_append]
    rfl
  rw [ew] at hP4
  refine lv_astore_n (lv' := [(2, .ref (E.2.2.2 + 123)), (1, .ref E.2.2.2), (0, .ref b)]) hx hb (dk zLw0 7 rfl) rfl hl (by decide) rfl (fun ls hl => ?_)
  refine lv_iconst hx hb (dk zLw0 8 rfl) (v := 0) rfl ?_
  refine lv_istore_n (lv' := [(3, .int 0), (2, .ref (E.2.2.2 + 123)), (1, .ref E.2.2.2), (0, .ref b)]) hx hb (dk zLw0 9 rfl) rfl hl (by decide) rfl (fun ls hl => ?_)
  exact law_loop hL (Nat.le_of_ble_eq_true rfl) (Nat.le_of_ble_eq_true rfl) (L + 6) 0 m0 (by omega) (by omega) m0_Inv p e s m below meth c C0 hK hW hE H4 l4 ls (lv_sub hl [3, 2, 1, 0] rfl) hP4 hS4
