/-! rows of rows in a world; a constructor's contract and its call -/
section MAKE2
variable {p : Program} {l : Launch} {e : Env} {R : Room} {s : State} {m : MethodId} {args : Array Value} {below : List Frame} {meth : Method} {c : Code} {H H0 : Heap} {locs : List Loc} {cells slots : Nat} {Q : State → Prop} {D : va_G} {cl : List vw_C} {tz : List (ClassId × FieldType)} {ws : va_W} {A : Nat → Prop} {cc : ByteArray} {pc : Nat} {ls : Array Slot} {rest : List Value}
theorem y_rf (hS : va_S A H0 H locs) : va_S A H H locs := ⟨Nat.le_refl _, fun _ _ _ => rfl, hS.2.2⟩
theorem y_tr {H1 : Heap} {locs1 : List Loc} (hS : va_S A H0 H locs) (h1 : va_S A H H1 locs1) : va_S A H0 H1 locs1 :=
  ⟨Nat.le_trans hS.1 h1.1, fun q a b => (h1.2.1 q (Nat.lt_of_lt_of_le a hS.1) b).trans (hS.2.1 q a b), h1.2.2⟩
theorem y_eqz {b h : Nat} {H1 : Heap} {locs1 : List Loc} (hsz : s.heap.size = b + 1) (hz : H.size = b + h) (hT : va_S A H H1 locs1) (hle : H1.size ≤ s.heap.size + cells) (hc : 1 + cells = h) : H1.size = b + h := by
  have := hT.1
  omega
theorem y_idx {b n : Nat} {w1 : va_W} (hw : w1.map (fun q => q.1) = (List.range n).map (fun i => b + i)) (k : Nat) (q : Nat × va_E) (hk : w1[k]? = some q) : q.1 = b + k := by
  have h1 : (w1.map (fun q => q.1))[k]? = some q.1 := by rw [List.getElem?_map, hk]; rfl
  rw [hw, List.getElem?_map] at h1
  by_cases w : k < n
  · rw [List.getElem?_range w] at h1
    exact (Option.some.inj h1).symm
  · rw [List.getElem?_eq_none (by simpa using w)] at h1
    cases h1
theorem y_span {b n : Nat} {w1 : va_W} (hw : w1.map (fun q => q.1) = (List.range n).map (fun i => b + i)) : va_D (fun q => b ≤ q) w1 := by
  refine ⟨fun i j p q hi hj hpq => ?_, fun k q hk => ?_⟩
  · have a1 := y_idx hw i p hi
    have a2 := y_idx hw j q hj
    omega
  · have a1 := y_idx hw k q hk
    show b ≤ q.1
    omega
theorem y_left {w2 : va_W} {k : Nat} {q : Nat × va_E} (hk : ws[k]? = some q) : (ws ++ w2)[k]? = some q := by
  rw [List.getElem?_append_left (List.getElem?_eq_some_iff.mp hk).1]
  exact hk
/-- what is known of a world stays when cells are made behind it -/
theorem y_add {H1 : Heap} {b n : Nat} {w1 : va_W} (hP : va_P D cl ws H) (hD : va_D A ws) (hlt : ∀ (k : Nat) (q : Nat × va_E), ws[k]? = some q → q.1 < b) (hA : ∀ q, b ≤ q → A q) (hw : w1.map (fun q => q.1) = (List.range n).map (fun i => b + i)) (hk1 : ∀ q : Nat, q < b → H1[q]? = H[q]?) (hP1 : va_P D cl w1 H1) : va_P D cl (ws ++ w1) H1 ∧ va_D A (ws ++ w1) := by
  refine ⟨(hP.kept (fun k q hk => hk1 q.1 (hlt k q hk))).app hP1, hD.app ((y_span hw).weaken (fun k q _ h => hA q.1 h)) (fun i j x y hx hy hxy => ?_)⟩
  have a1 := hlt i x hx
  have a2 := y_idx hw j y hy
  omega
def mnW (h N : Nat) (cA cC : ClassId) (a0 : vp_A) : va_W := (h, .inl (cA, N, .inr (.inr (.inr (.inr (fun j => some (h + 1 + j))))))) :: (List.range N).map (fun j => (h + 1 + j, .inl (cC, a0)))
theorem mnW_fst (h N : Nat) (cA cC : ClassId) (a0 : vp_A) : (mnW h N cA cC a0).map (fun q => q.1) = (List.range (N + 1)).map (fun i => h + i) := by
  unfold mnW
  rw [List.range_succ_eq_map, List.map_cons, List.map_cons, List.map_map, List.map_map, Nat.add_zero]
  congr 1
  apply List.map_congr_left
  intro i _
  show h + 1 + i = h + (i + 1)
  omega
theorem arrV_of {cell : Cell} {cA : ClassId} {N : Nat} {f : Nat → Value} (h1 : cell.cls = cA) (h2 : cell.vm = .none ∧ cell.monitor = {} ∧ cell.hash = none) (h3 : cell.slots.size = N) (h4 : ∀ j, j < N → cell.slots[j]? = some (f j)) : cell = arrV cA N f := by
  obtain ⟨c1, sl, mo, ha, vm⟩ := cell
  obtain ⟨h2, h5, h6⟩ := h2
  dsimp only at h1 h2 h3 h4 h5 h6
  subst h1 h2 h5 h6
  have e : sl = Array.ofFn (n := N) fun j => f j.val := by
    apply Array.ext
    · rw [h3, Array.size_ofFn]
    · intro i a1 a2
      have := h4 i (by omega)
      rw [Array.getElem?_eq_getElem a1] at this
      rw [Option.some.inj this, Array.getElem_ofFn]
  rw [e]
  rfl
theorem arrV_eq (cA : ClassId) (N : Nat) {f g : Nat → Value} (h : ∀ j, j < N → f j = g j) : arrV cA N f = arrV cA N g := by
  unfold arrV
  congr 2
  funext j
  exact h j.val j.isLt
theorem y_mna {own : String} {index : Nat} {ty : FieldType} {cA cC : ClassId} {qa qk h : Nat} {n k : Int32} {N K : Nat} {a0 : vp_A} (hexec : p.tables.exec = Jvm.exec) (hb : c.code = cc) (hown : s.vm.findClass own = some m.cls) (hclink : (Cond.classLink own index ("[" ++ (FieldType.array ty).toString)).before args s = true) (hover : (Cond.arrayOver (.array ty)).before args s = true) (harr : (Cond.arrayClass ty).before args s = true)
    (hK : va_K D cl tz s) (hqa : tz[qa]? = some (cA, .array ty)) (hqk : tz[qk]? = some (cC, ty)) (hRA : ∀ (U : State) (c0 : ClassId), va_RA U c0 ty → U.vm.findClass (FieldType.array ty).toString = some c0) (hP : va_P D cl ws H) (hD : va_D A ws) (hS : va_S A H0 H locs) (hA : ∀ q, H0.size ≤ q → A q)
    (ha : ∀ c0 : ClassId, vp_cell c0 a0 = arrV c0 K (fun _ => defaultValue ty)) (hN : n.toNatClampNeg = N) (hKn : k.toNatClampNeg = K) (hn : ¬ n < 0) (hk : ¬ k < 0) (hb1 : N * 4 ≤ 536870912) (hb2 : K * componentBytes ty ≤ 536870912) (hb3 : K ≤ 536870912) (hdf : fits ty (defaultValue ty) = true) (hcells : cells + (1 + N) ≤ R.cells) (hslots : slots + (N + N * K) ≤ R.slots) (hh : H.size = h) (hdg : decode cc pc = .ok (.multianewarray index 2, 4))
    (kk : ∀ (H1 : Heap) (locs1 : List Loc), H1.size = h + 1 + N → va_P D cl (ws ++ mnW h N cA cC a0) H1 → va_D A (ws ++ mnW h N cA cC a0) → va_S A H0 H1 locs1 → W p l e R s m args below meth c H1 locs1 (cells + 1 + N) (slots + N + N * K) Q (F0 m (pc + 4) ls (.ref h :: rest))) : W p l e R s m args below meth c H locs cells slots Q (F0 m pc ls (.int k :: .int n :: rest)) := by
  subst hh
  refine W_mna hexec hb hown hclink hover harr hN hKn hn hk hb1 hb2 hb3 hdf hcells hslots hdg (fun H1 cA' comp kA kC ce' Lx cell hL hA1 hC1 _ _ _ _ hz1 ho1 hc1 hc2 hc3 hc4 hc5 hr1 => ?_)
  have e1 : cA' = cA := Option.some.inj (hA1.symm.trans (hK.2 qa _ hqa).2)
  have e2 : comp = cC := Option.some.inj (hC1.symm.trans (hRA s cC (hK.2 qk _ hqk).2))
  subst e1 e2
  have hAh : ∀ q, H.size ≤ q → A q := fun q z => hA q (Nat.le_trans hS.1 z)
  obtain ⟨hP1, hD1⟩ := y_add (b := H.size) (n := N + 1) (w1 := mnW H.size N cA' comp a0) (H1 := H1) hP hD (fun k q hk => (hP k q hk).lt) hAh (mnW_fst _ _ _ _ _) ho1 (fun k q hk => by
    cases k with
    | zero =>
      cases hk
      show H1[H.size]? = some (vp_cell _ _)
      rw [hc1, vp_cell_q]
      exact congrArg some (arrV_of hc2 hc3 hc4 hc5)
    | succ k =>
      have hk : ((List.range N).map (fun j => (H.size + 1 + j, (Sum.inl (comp, a0) : va_E))))[k]? = some q := hk
      rw [List.getElem?_map] at hk
      by_cases w : k < N
      · rw [List.getElem?_range w] at hk
        cases hk
        show H1[H.size + 1 + k]? = some (vp_cell _ _)
        rw [hr1 k w, ha, arrV_new]
      · rw [List.getElem?_eq_none (by simpa using w)] at hk
        cases hk)
  refine kk H1 _ hz1 hP1 hD1 ⟨by have := hS.1; omega, fun q a b => (ho1 q (Nat.lt_of_lt_of_le a hS.1)).trans (hS.2.1 q a b), fun q hq => ?_⟩
  rcases List.mem_append.mp hq with z | z
  · exact hS.2.2 q z
  · rw [hL q z]
    exact hAh _ (Nat.le_refl _)
end MAKE2
/-- the nest's own links of constructors -/
def nnl : List (String × Nat × MethodName) := [(RX10, 11, yX3_init), (RX10, 24, yX5_init), (RX10, 64, yX4_init), (RX10, 71, yX0_init), (RX2, 11, yX5_init), (RX1, 11, yX0_init), (RX6, 11, yX0_init), (RX9, 11, yX0_init)]
def nn (s : State) : Prop := (∀ q ∈ nnl, va_Nw (.methodLinkNest q.1 q.2.1 q.2.2 RX10) s) ∧ (Cond.arrayOver (.array .int)).before #[] s = true ∧ (Cond.arrayOver (.array .long)).before #[] s = true ∧ va_AO "StampsCancel$Text" s
theorem nn_warm {s U : State} (hW : s.WarmedH U.vm) (h : nn s) : nn U := ⟨fun q hq => va_Nw.warmM hW (h.1 q hq), over_moved hW.alike h.2.1, over_moved hW.alike h.2.2.1, h.2.2.2.moved hW.alike⟩
theorem nn_same {s U : State} (hW : s.vm = U.vm) (h : nn s) : nn U := ⟨fun q hq => va_Nw.same rfl hW (h.1 q hq), over_moved (hW ▸ Vm.Alike.refl _) h.2.1, over_moved (hW ▸ Vm.Alike.refl _) h.2.2.1, h.2.2.2.moved (hW ▸ Vm.Alike.refl _)⟩
theorem nn_oi {s : State} {A : Array Value} (h : nn s) : (Cond.arrayOver (.array .int)).before A s = true := over_moved (Vm.Alike.refl _) h.2.1
theorem nn_ol {s : State} {A : Array Value} (h : nn s) : (Cond.arrayOver (.array .long)).before A s = true := over_moved (Vm.Alike.refl _) h.2.2.1
theorem nn_ot {s : State} {A : Array Value} (h : nn s) : (Cond.arrayOver (.object "StampsCancel$Text")).before A s = true := h.2.2.2.use
/-- a constructor's contract: the blank object lies at b, the last cell there is; behind it the world w1 lies from b on -/
def Cn (E : EV) (M : MT) (b : Nat) (as : List Value) (ci : Nat) (fs : List Value) (n sl : Nat) (w1 : va_W) : Prop :=
  Met E.1 M.1 (mws M) ({ frames := M.2.2.2.2.1, cells := n, slots := sl, locals := M.2.2.2.2.2 }) (va_Pc (.ref b :: as) (fun U => U.heap.size = b + 1 ∧ va_P E.2.1 classes [(b, .inr (ci, fs))] U.heap ∧ va_K E.2.1 classes (tys E) U ∧ nn U)) (va_Qv (fun _ : Unit => True) (fun _ t => t.heap.size = b + 1 + n ∧ va_P E.2.1 classes w1 t.heap) (fun q => b ≤ q)) n sl (fun q => b ≤ q)
theorem Met.pre {l : Launch} {y : MethodName} {ws : List Cond} {rm : Room} {Pc Pc' : Array Value → State → Prop} {Qc : Array Value → State → Outcome → State → Prop} {mc ms : Nat} {free : Addr → Prop} (k : Met l y ws rm Pc Qc mc ms free) (h : ∀ v U, Pc' v U → Pc v U) : Met l y ws rm Pc' Qc mc ms free := by
  intro p e ha hc hk s m args below hf happ hP hT
  exact k p e ha hc hk s m args below hf happ (h _ _ hP) hT
theorem Cn.of {E : EV} {M : MT} {b : Nat} {as : List Value} {ci : Nat} {fs : List Value} {n sl : Nat} {w1 : va_W} (k : Met E.1 M.1 (mws M) ({ frames := M.2.2.2.2.1, cells := n, slots := sl, locals := M.2.2.2.2.2 }) (va_Pc (.ref b :: as) (fun U => U.heap.size = b + 1 ∧ va_P E.2.1 classes [(b, .inr (ci, fs))] U.heap ∧ va_K E.2.1 classes (tys E) U)) (va_Qv (fun _ : Unit => True) (fun _ t => t.heap.size = b + 1 + n ∧ va_P E.2.1 classes w1 t.heap) (fun q => b ≤ q)) n sl (fun q => b ≤ q)) : Cn E M b as ci fs n sl w1 :=
  Met.pre k (fun _ _ h => ⟨h.1, h.2.1, h.2.2.1, h.2.2.2.1⟩)
section YINIT
variable {E : EV} {p : Program} {e : Env} {R : Room} {s : State} {m : MethodId} {args : Array Value} {below : List Frame} {meth : Method} {c : Code} {H H0 : Heap} {locs : List Loc} {cells slots : Nat} {Q : State → Prop} {ws : va_W} {A : Nat → Prop} {cc : ByteArray} {pc : Nat} {ls : Array Slot} {rest : List Value}
variable {y : MethodName} {cy : ByteArray} {mL fr lo b ci n sl nL idx : Nat} {own : String} {as fs : List Value} {w1 : va_W}
theorem cn_pre (hK : va_K E.2.1 classes (tys E) s) (hN : nn s) (hP : va_P E.2.1 classes [(b, .inr (ci, fs))] H) (hz : H.size = b + 1) : PreS s H (va_Pc (.ref b :: as) (fun U => U.heap.size = b + 1 ∧ va_P E.2.1 classes [(b, .inr (ci, fs))] U.heap ∧ va_K E.2.1 classes (tys E) U ∧ nn U)) (.ref b :: as) := by
  refine ⟨fun a U g mk q => ?_, fun U hU hW => ⟨rfl, by rw [hU]; exact hz, by rw [hU]; exact hP, va_K.moved hW.alike hK, nn_warm hW hN⟩⟩
  obtain ⟨q0, q1, qP, qK, qN⟩ := q
  exact ⟨q0, q1, qP, va_K.moved (u := U) (U := U.calling g mk a) (Vm.Alike.refl U.vm) qK, nn_same (s := U) (U := U.calling g mk a) rfl qN⟩
theorem cn_join {a : Array Value} {st0 : List Value} (hr : va_Run p E.1 e R s m args below meth c H locs cells slots n sl (F0 m pc ls st0) rest (va_Qv (fun _ : Unit => True) (fun _ t => t.heap.size = b + 1 + n ∧ va_P E.2.1 classes w1 t.heap) (fun q => b ≤ q) a) (fun q => b ≤ q))
    (hP : va_P E.2.1 classes (ws ++ [(b, .inr (ci, fs))]) H) (hD : va_D A (ws ++ [(b, .inr (ci, fs))])) (hS : va_S A H0 H locs) (hA : ∀ q, b ≤ q → A q) (hz : H.size = b + 1) (hw : w1.map (fun q => q.1) = (List.range (n + 1)).map (fun i => b + i))
    (kk : ∀ (H1 : Heap) (locs1 : List Loc), H1.size = b + 1 + n → va_P E.2.1 classes (ws ++ w1) H1 → va_D A (ws ++ w1) → va_S A H0 H1 locs1 → W p E.1 e R s m args below meth c H1 locs1 (cells + n) (slots + sl) Q (F0 m (pc + 3) ls rest)) : W p E.1 e R s m args below meth c H locs cells slots Q (F0 m pc ls st0) := by
  refine va_callv hr hS (fun q _ h => hA q h) hA (fun u t H1 locs1 ht hvm _ hB hz1 hk1 hS1 => ?_)
  obtain ⟨hs, hP1⟩ := hB
  rw [ht] at hs hP1
  have hP0 : va_P E.2.1 classes ws H := fun k q hk => hP k q (y_left hk)
  have hD0 : va_D A ws := ⟨fun i j p q hi hj => hD.1 i j p q (y_left hi) (y_left hj), fun k q hk => hD.2 k q (y_left hk)⟩
  have hlt : ∀ (k : Nat) (q : Nat × va_E), ws[k]? = some q → q.1 < b := fun k q hk => by
    have a1 := (hP0 k q hk).lt
    have a2 : k < ws.length := (List.getElem?_eq_some_iff.mp hk).1
    by_cases w : q.1 = b
    · have := hD.1 k ws.length q (b, .inr (ci, fs)) (y_left hk) (by simp) w
      omega
    · omega
  obtain ⟨hP2, hD2⟩ := y_add (n := n + 1) hP0 hD0 hlt hA hw (fun q hq => hk1 q (by omega) (by omega)) hP1
  exact kk H1 locs1 hs hP2 hD2 hS1
/-- a constructor of a nest mate -/
theorem y_initN (hx : p.tables.exec = Jvm.exec) (hb : c.code = cc) (hml : c.maxLocals = nL) (hown : s.vm.findClass own = some m.cls) (hts : ∀ w ∈ tbG, w.before args s = true) (hN : nn s) (hK : va_K E.2.1 classes (tys E) s) (hM : Cn E (y, cy, mL, none, fr, lo) b as ci fs n sl w1) (hnest : (own, idx, y) ∈ nnl) (hcode : Cond.code y cy mL none ∈ tbG) (hini : Cond.initialized y.cls ∈ tbG) (him : Cond.instanceMethod y ∈ tbG) (hy : y.name = "<init>")
    (hd : y.cls ≠ "java/lang/invoke/MethodHandle" ∧ y.cls ≠ "java/lang/invoke/VarHandle" ∧ (parseMethodDescriptor y.desc).map (fun d => d.parameters.length) = some as.length) (hR : fr + 1 ≤ R.frames ∧ 8 + (mL + 11) + lo ≤ R.locals) (hsize : ls.size = nL) (hcat : (rest.map fun v => v.category).sum ≤ 8) (hdg : decode cc pc = .ok (.invokespecial idx, 3)) (hf : cells + n ≤ R.cells ∧ slots + sl ≤ R.slots)
    (hP : va_P E.2.1 classes (ws ++ [(b, .inr (ci, fs))]) H) (hD : va_D A (ws ++ [(b, .inr (ci, fs))])) (hS : va_S A H0 H locs) (hA : ∀ q, b ≤ q → A q) (hz : H.size = b + 1) (hw : w1.map (fun q => q.1) = (List.range (n + 1)).map (fun i => b + i))
    (kk : ∀ (H1 : Heap) (locs1 : List Loc), H1.size = b + 1 + n → va_P E.2.1 classes (ws ++ w1) H1 → va_D A (ws ++ w1) → va_S A H0 H1 locs1 → W p E.1 e R s m args below meth c H1 locs1 (cells + n) (slots + sl) Q (F0 m (pc + 3) ls rest)) : W p E.1 e R s m args below meth c H locs cells slots Q (F0 m pc ls (as.reverse ++ .ref b :: rest)) := by
  refine cn_join (va_runIN (As := as) (rest := rest) ⟨hx, hb, hml, hown, hts⟩ hM ⟨va_cnB as.length hts (mws_good (M := (y, cy, mL, none, fr, lo)) hcode) rfl rfl rfl (hN.1 (own, idx, y) hnest) (hts _ hini) hd hR, hy, hts _ him⟩ (cn_pre hK hN (fun k q hk => ?_) hz) rfl rfl hsize rfl (lv_room hcat) hdg hf) hP hD hS hA hz hw kk
  cases k with
  | zero => cases hk; exact hP ws.length _ (by simp)
  | succ k => cases hk
/-- a constructor by a plain link -/
theorem y_initL (hx : p.tables.exec = Jvm.exec) (hb : c.code = cc) (hml : c.maxLocals = nL) (hown : s.vm.findClass own = some m.cls) (hts : ∀ w ∈ tbG, w.before args s = true) (hN : nn s) (hK : va_K E.2.1 classes (tys E) s) (hM : Cn E (y, cy, mL, none, fr, lo) b as ci fs n sl w1) (hlink : Cond.methodLink own idx y ∈ tbG) (hcode : Cond.code y cy mL none ∈ tbG) (hini : Cond.initialized y.cls ∈ tbG) (him : Cond.instanceMethod y ∈ tbG) (hy : y.name = "<init>")
    (hd : y.cls ≠ "java/lang/invoke/MethodHandle" ∧ y.cls ≠ "java/lang/invoke/VarHandle" ∧ (parseMethodDescriptor y.desc).map (fun d => d.parameters.length) = some as.length) (hR : fr + 1 ≤ R.frames ∧ 8 + (mL + 11) + lo ≤ R.locals) (hsize : ls.size = nL) (hcat : (rest.map fun v => v.category).sum ≤ 8) (hdg : decode cc pc = .ok (.invokespecial idx, 3)) (hf : cells + n ≤ R.cells ∧ slots + sl ≤ R.slots)
    (hP : va_P E.2.1 classes (ws ++ [(b, .inr (ci, fs))]) H) (hD : va_D A (ws ++ [(b, .inr (ci, fs))])) (hS : va_S A H0 H locs) (hA : ∀ q, b ≤ q → A q) (hz : H.size = b + 1) (hw : w1.map (fun q => q.1) = (List.range (n + 1)).map (fun i => b + i))
    (kk : ∀ (H1 : Heap) (locs1 : List Loc), H1.size = b + 1 + n → va_P E.2.1 classes (ws ++ w1) H1 → va_D A (ws ++ w1) → va_S A H0 H1 locs1 → W p E.1 e R s m args below meth c H1 locs1 (cells + n) (slots + sl) Q (F0 m (pc + 3) ls rest)) : W p E.1 e R s m args below meth c H locs cells slots Q (F0 m pc ls (as.reverse ++ .ref b :: rest)) := by
  refine cn_join (va_runI (As := as) (rest := rest) ⟨hx, hb, hml, hown, hts⟩ hM (cwI as.length hts (mws_good (M := (y, cy, mL, none, fr, lo)) hcode) rfl rfl rfl (hts _ hini) (hts _ hlink) (hts _ him) hy hd hR) (cn_pre hK hN (fun k q hk => ?_) hz) rfl rfl hsize rfl (lv_room hcat) hdg hf) hP hD hS hA hz hw kk
  cases k with
  | zero => cases hk; exact hP ws.length _ (by simp)
  | succ k => cases hk
end YINIT
