/-! rows of rows: what multianewarray makes -/
section MNA
variable {p : Program} {l : Launch} {e : Env} {R : Room} {s : State} {m : MethodId} {args : Array Value} {below : List Frame} {meth : Method} {c : Code} {T : State} {locs : List Loc} {cells slots : Nat}
/-- behind so many inner rows -/
def mnU (T : State) (h : Nat) (ic : Cell) : Nat → State
  | 0 => T
  | i + 1 => ((mnU T h ic i).pushCell ic).setCell h ((((mnU T h ic i).heap[h]?).getD ic).setSlot i (.ref (h + 1 + i)))
def MnF (T : State) (cA : ClassId) (h N : Nat) (ic : Cell) (i : Nat) : Prop :=
  (mnU T h ic i).heap.size = h + 1 + i ∧ (mnU T h ic i).vm = T.vm ∧ (∀ q, q < h → (mnU T h ic i).heap[q]? = T.heap[q]?) ∧ (∀ j, j < i → (mnU T h ic i).heap[h + 1 + j]? = some ic) ∧
    ∃ cell : Cell, (mnU T h ic i).heap[h]? = some cell ∧ cell.cls = cA ∧ (cell.vm = .none ∧ cell.monitor = {} ∧ cell.hash = none) ∧ cell.slots.size = N ∧ ∀ j, j < N → cell.slots[j]? = some (if j < i then .ref (h + 1 + j) else .null)
theorem MnF.next {cA : ClassId} {h N : Nat} {ic : Cell} {i : Nat} (F : MnF T cA h N ic i) : MnF T cA h N ic (i + 1) := by
  obtain ⟨f1, f2, f3, f4, cell, f5, f6, f7, f8, f9⟩ := F
  have hh : h < (mnU T h ic i).heap.size := by omega
  have e5 : (((mnU T h ic i).heap[h]?).getD ic) = cell := by rw [f5]; rfl
  have un : mnU T h ic (i + 1) = ((mnU T h ic i).pushCell ic).setCell h (cell.setSlot i (.ref (h + 1 + i))) := by
    show ((mnU T h ic i).pushCell ic).setCell h ((((mnU T h ic i).heap[h]?).getD ic).setSlot i (.ref (h + 1 + i))) = _
    rw [e5]
  have sz : ((mnU T h ic i).pushCell ic).heap.size = h + 1 + (i + 1) := by simp [f1]; omega
  have hl2 : h < h + 1 + (i + 1) := by omega
  have ot : ∀ q, q ≠ h → (mnU T h ic (i + 1)).heap[q]? = ((mnU T h ic i).pushCell ic).heap[q]? := fun q hq => by
    rw [un]; exact heapAt_setCell_ne _ (Ne.symm hq)
  refine ⟨by rw [un, size_setCell, sz], by rw [un]; exact f2, fun q hq => ?_, fun j hj => ?_, cell.setSlot i (.ref (h + 1 + i)), by rw [un]; exact heapAt_setCell_self (a := h) _ (by rw [sz]; exact hl2), f6, f7, by simp [Cell.setSlot, f8], fun j hj => ?_⟩
  · have hq' : q < (mnU T h ic i).heap.size := by rw [f1]; omega
    rw [ot q (by omega), State.heap_pushCell_of_lt (h := hq')]
    exact f3 q hq
  · rw [ot _ (by omega)]
    by_cases w : j = i
    · rw [w, ← f1]
      exact State.heap_pushCell_size _ _
    · have hq' : h + 1 + j < (mnU T h ic i).heap.size := by rw [f1]; omega
      rw [State.heap_pushCell_of_lt (h := hq')]
      exact f4 j (by omega)
  · simp only [Cell.setSlot, Array.getElem?_setIfInBounds]
    by_cases w : i = j
    · rw [if_pos w, if_pos (by omega), if_pos (by omega), w]
    · rw [if_neg w, f9 j hj]
      by_cases v : j < i
      · rw [if_pos v, if_pos (by omega)]
      · rw [if_neg v, if_neg (by omega)]
theorem MnF.all {cA : ClassId} {h N : Nat} {ic : Cell} (F : MnF T cA h N ic 0) : ∀ i, MnF T cA h N ic i
  | 0 => F
  | i + 1 => (MnF.all F i).next
theorem mn_stand {cA : ClassId} {h N : Nat} {ic : Cell} (F : MnF T cA h N ic 0) (X : Stand p l e R s m args below meth c T locs cells slots) : ∀ i, ∃ Lx : List Loc, (∀ x ∈ Lx, x.base = h) ∧ Stand p l e R s m args below meth c (mnU T h ic i) (locs ++ Lx) (cells + i) (slots + i * ic.slots.size)
  | 0 => ⟨[], fun _ w => (by cases w), by rw [List.append_nil, Nat.zero_mul]; exact X⟩
  | i + 1 => by
    obtain ⟨Lx, hL, Xi⟩ := mn_stand F X i
    obtain ⟨f1, f2, f3, f4, cell, f5, f6, f7, f8, f9⟩ := F.all i
    have hq' : h < (mnU T h ic i).heap.size := by rw [f1]; omega
    have hc : ((mnU T h ic i).pushCell ic).heap[h]? = some cell := by rw [State.heap_pushCell_of_lt (h := hq')]; exact f5
    have Y := (Xi.pushed ic).stored hc i (.ref (h + 1 + i))
    refine ⟨Lx ++ [⟨h, i⟩], fun x hx => ?_, ?_⟩
    · rcases List.mem_append.mp hx with w | w
      · exact hL x w
      · cases List.mem_singleton.mp w; rfl
    · have e5 : (((mnU T h ic i).heap[h]?).getD ic) = cell := by rw [f5]; rfl
      show Stand p l e R s m args below meth c (((mnU T h ic i).pushCell ic).setCell h ((((mnU T h ic i).heap[h]?).getD ic).setSlot i (.ref (h + 1 + i)))) _ _ _
      rw [e5, Nat.succ_mul, ← List.append_assoc, ← Nat.add_assoc, ← Nat.add_assoc]
      exact Y
theorem mn_ref {t : FieldType} (h : t.isReference = true) : fits t .null = true ∧ ∀ a, fits t (.ref a) = true := by
  cases t <;> first | (simp [FieldType.isReference] at h; done) | exact ⟨rfl, fun _ => rfl⟩
theorem mn_make {E : CtlPost} {d : Bool} {acts : List Action} {S0 : State} {cA comp cc : ClassId} {kA kC : Class} {ty : FieldType} {n k : Int32} {Q : Addr → Pre} {g' : JFrame} (hkA : S0.vm.classes[cA]? = some kA) (hkindA : kA.kind = .array comp (.array ty)) (hkC : S0.vm.classes[comp]? = some kC) (hkindC : kC.kind = .array cc ty) (hn : ¬ n < 0) (hk : ¬ k < 0)
    (hl1 : ¬ n.toNatClampNeg > e.platform.arrayLengthLimit) (hh1 : ¬ n.toNatClampNeg * componentBytes (.array ty) > e.platform.maxHeapBytes) (hl2 : ¬ k.toNatClampNeg > e.platform.arrayLengthLimit) (hh2 : ¬ k.toNatClampNeg * componentBytes ty > e.platform.maxHeapBytes) (hdf : fits ty (defaultValue ty) = true)
    (hc : S0.heap.size < e.platform.maxCells) (hs : S0.slotsUsed + n.toNatClampNeg ≤ e.platform.maxSlots)
    (T1 : State) (hT1 : T1 = S0.pushCell { cls := cA, slots := Array.replicate n.toNatClampNeg .null }) (F : MnF T1 cA S0.heap.size n.toNatClampNeg { cls := comp, slots := Array.replicate k.toNatClampNeg (defaultValue ty) } 0)
    (room : ∀ i, i < n.toNatClampNeg → (mnU T1 S0.heap.size { cls := comp, slots := Array.replicate k.toNatClampNeg (defaultValue ty) } i).heap.size < e.platform.maxCells ∧ (mnU T1 S0.heap.size { cls := comp, slots := Array.replicate k.toNatClampNeg (defaultValue ty) } i).slotsUsed + k.toNatClampNeg ≤ e.platform.maxSlots)
    (hq : ∀ d' acts', Q S0.heap.size d' acts' ((mnU T1 S0.heap.size { cls := comp, slots := Array.replicate k.toNatClampNeg (defaultValue ty) } n.toNatClampNeg).setTop g')) : wp (Op.multianewarray.make cA [n, k]) Q E e d acts (S0.setTop g') := by
  have rf := mn_ref (t := .array ty) rfl
  have hfind : ([k].find? (· < 0)) = none := by simp [hk]
  rw [Op.multianewarray.make]
  simp only [wp_bind', W.ite, hn, if_false, wp_pure', W.theClass]
  refine ⟨kA, hkA, ?_⟩
  simp only [hkindA]
  rw [wp_bind']
  refine W.newArray_of (s := S0.setTop g') hkA hkindA hl1 hh1 hc hs rf.1 (fun acts' => ?_)
  simp only [hfind]
  rw [ite_self, wp_bind', Std.Legacy.Range.forIn_eq_forIn_range']
  have hsz : ([:n.toNatClampNeg] : Std.Legacy.Range).size = n.toNatClampNeg := by simp [Std.Legacy.Range.size]
  rw [hsz]
  generalize hic : ({ cls := comp, slots := Array.replicate k.toNatClampNeg (defaultValue ty) } : Cell) = ic at F room hq
  refine wp_forIn_inv (fun r s' => ∃ i, i ≤ n.toNatClampNeg ∧ r = List.range' i (n.toNatClampNeg - i) ∧ s' = (mnU T1 S0.heap.size ic i).setTop g') _ _ ⟨0, Nat.zero_le _, rfl, by rw [State.pushCell_setTop, hT1]; rfl⟩ ?_ ?_
  · rintro x r s' d' acts'' Q' ⟨i, hi, hl, rfl⟩ hnext
    have hlt : i < n.toNatClampNeg := by
      by_cases w : i < n.toNatClampNeg
      · exact w
      · rw [show n.toNatClampNeg - i = 0 by omega] at hl
        cases hl
    rw [show n.toNatClampNeg - i = (n.toNatClampNeg - (i + 1)) + 1 by omega, List.range'_succ] at hl
    obtain ⟨rfl, rfl⟩ := List.cons.inj hl
    obtain ⟨f1, f2, f3, f4, cell, f5, f6, f7, f8, f9⟩ := F.all x
    obtain ⟨r1, r2⟩ := room x hlt
    have vm1 : (mnU T1 S0.heap.size ic x).vm = S0.vm := by rw [f2, hT1]; rfl
    have hq' : S0.heap.size < (mnU T1 S0.heap.size ic x).heap.size := by rw [f1]; omega
    simp only [wp_bind']
    rw [Op.multianewarray.make]
    simp only [wp_bind', W.ite, hk, if_false, wp_pure', W.theClass]
    refine ⟨kC, by rw [State.vm_setTop, vm1]; exact hkC, ?_⟩
    simp only [hkindC]
    refine W.newArray_of (s := (mnU T1 S0.heap.size ic x).setTop g') (by rw [State.vm_setTop, vm1]; exact hkC) hkindC hl2 hh2 r1 r2 hdf (fun acts3 => ?_)
    simp only [wp_bind', W.writeLoc, wp_pure']
    rw [hic]
    refine ⟨cell, by rw [State.pushCell_setTop]; exact (State.heap_pushCell_of_lt _ _ hq').trans f5, by rw [f7.1]; simp, by rw [f8]; exact hlt, ?_, hnext _ _ _ ⟨x + 1, hlt, by congr 1, ?_⟩⟩
    · rw [f6, f7.1]
      simp [State.fitsSlot, State.slotType?, vm1, hkA, hkindA, rf.2]
    · show _ = ((((mnU T1 S0.heap.size ic x).pushCell ic).setCell S0.heap.size ((((mnU T1 S0.heap.size ic x).heap[S0.heap.size]?).getD ic).setSlot x (.ref (S0.heap.size + 1 + x))))).setTop g'
      rw [f5, State.pushCell_setTop, State.setCell_setTop, ← f1]
      rfl
  · rintro s' d' acts'' ⟨i, hi, hl, rfl⟩
    have hiN : i = n.toNatClampNeg := by
      by_cases w : i < n.toNatClampNeg
      · rw [show n.toNatClampNeg - i = (n.toNatClampNeg - (i + 1)) + 1 by omega, List.range'_succ] at hl
        cases hl
      · omega
    subst hiN
    simp only [wp_pure']
    exact hq _ _
theorem W_mna {H : Heap} {Q : State → Prop} {cc : ByteArray} (hexec : p.tables.exec = Jvm.exec) (hb : c.code = cc) {own : String} {index : Nat} {ty : FieldType} (hown : s.vm.findClass own = some m.cls) (hclink : (Cond.classLink own index ("[" ++ (FieldType.array ty).toString)).before args s = true) (hover : (Cond.arrayOver (.array ty)).before args s = true) (harr : (Cond.arrayClass ty).before args s = true)
    {pc : Nat} {ls : Array Slot} {rest : List Value} {n k : Int32} {N K : Nat} (hN : n.toNatClampNeg = N) (hK : k.toNatClampNeg = K) (hn : ¬ n < 0) (hk : ¬ k < 0) (hb1 : N * 4 ≤ 536870912) (hb2 : K * componentBytes ty ≤ 536870912) (hb3 : K ≤ 536870912) (hdf : fits ty (defaultValue ty) = true) (hcells : cells + (1 + N) ≤ R.cells) (hslots : slots + (N + N * K) ≤ R.slots) (hdg : decode cc pc = .ok (.multianewarray index 2, 4))
    (kk : ∀ (H1 : Heap) (cA comp : ClassId) (kA kC : Class) (ce' : ClassId) (Lx : List Loc) (cell : Cell), (∀ x ∈ Lx, x.base = H.size) → s.vm.findClass ("[" ++ (FieldType.array ty).toString) = some cA → s.vm.findClass (FieldType.array ty).toString = some comp → s.vm.classes[cA]? = some kA → kA.kind = .array comp (.array ty) → s.vm.classes[comp]? = some kC → kC.kind = .array ce' ty → H1.size = H.size + 1 + N → (∀ q, q < H.size → H1[q]? = H[q]?) → H1[H.size]? = some cell → cell.cls = cA → (cell.vm = .none ∧ cell.monitor = {} ∧ cell.hash = none) → cell.slots.size = N → (∀ j, j < N → cell.slots[j]? = some (.ref (H.size + 1 + j))) → (∀ j, j < N → H1[H.size + 1 + j]? = some { cls := comp, slots := Array.replicate K (defaultValue ty), vm := .none }) →
      W p l e R s m args below meth c H1 (locs ++ Lx) (cells + 1 + N) (slots + N + N * K) Q (F0 m (pc + 4) ls (.ref H.size :: rest))) : W p l e R s m args below meth c H locs cells slots Q (F0 m pc ls (.int k :: .int n :: rest)) := by
  intro T hT X
  subst hT; subst hb; subst hN; subst hK
  have hpl : e.platform.magicAccessors = ({} : Platform).magicAccessors := by rw [X.admits.platform]
  obtain ⟨comp, cA, kA, hcomp, -, hkA, hkindA, hnameA⟩ := arrayOverA_spec hover
  obtain ⟨comp', kC, ce', hcomp', hkC, hkindC⟩ := Cond.arrayClass_spec harr
  cases Option.some.inj (hcomp'.symm.trans hcomp)
  obtain ⟨c0, hfc0, hcl⟩ := Cond.classLink_spec hown hclink e.platform hpl
  cases hnameA.symm.trans hfc0
  obtain ⟨hg₁, hwarm₁, hready₁⟩ := State.classEntry (e := e) X.warmed hcl
  generalize T.vm.noted m.cls index (.cls cA) = vm₁ at hg₁ hwarm₁ hready₁
  have hal : s.vm.Alike vm₁ := hwarm₁.alike
  obtain ⟨kA₁, hkA₁, heA⟩ := hal.2.2 _ _ hkA
  obtain ⟨kC₁, hkC₁, heC⟩ := hal.2.2 _ _ hkC
  have hkindA₁ : kA₁.kind = .array comp (.array ty) := by rw [heA]; exact hkindA
  have hkindC₁ : kC₁.kind = .array ce' ty := by rw [heC]; exact hkindC
  have hl1 : ¬ n.toNatClampNeg > e.platform.arrayLengthLimit := by rw [Launch.admits_arrayLengthLimit X.admits]; omega
  have hh1 : ¬ n.toNatClampNeg * componentBytes (.array ty) > e.platform.maxHeapBytes := by
    rw [Launch.admits_maxHeapBytes X.admits]; show ¬ n.toNatClampNeg * 4 > 536870912; omega
  have hl2 : ¬ k.toNatClampNeg > e.platform.arrayLengthLimit := by rw [Launch.admits_arrayLengthLimit X.admits]; omega
  have hh2 : ¬ k.toNatClampNeg * componentBytes ty > e.platform.maxHeapBytes := by rw [Launch.admits_maxHeapBytes X.admits]; omega
  have X1 := (X.noted hwarm₁).pushed { cls := cA, slots := Array.replicate n.toNatClampNeg .null }
  have esz : ({ cls := cA, slots := Array.replicate n.toNatClampNeg .null } : Cell).slots.size = n.toNatClampNeg := by simp
  rw [esz] at X1
  have F : MnF ((T.setVm vm₁).pushCell { cls := cA, slots := Array.replicate n.toNatClampNeg .null }) cA T.heap.size n.toNatClampNeg { cls := comp, slots := Array.replicate k.toNatClampNeg (defaultValue ty) } 0 := by
    refine ⟨?_, rfl, fun q _ => rfl, fun j hj => absurd hj (Nat.not_lt_zero j), _, State.heap_pushCell_size (T.setVm vm₁) _, rfl, ⟨rfl, rfl, rfl⟩, esz, fun j hj => ?_⟩
    · show ((T.setVm vm₁).pushCell _).heap.size = _
      simp
    · simp [hj]
  have eic : ({ cls := comp, slots := Array.replicate k.toNatClampNeg (defaultValue ty) } : Cell).slots.size = k.toNatClampNeg := by simp
  have ST := mn_stand F X1
  rw [eic] at ST
  have room : ∀ i, i < n.toNatClampNeg → (mnU ((T.setVm vm₁).pushCell { cls := cA, slots := Array.replicate n.toNatClampNeg .null }) T.heap.size { cls := comp, slots := Array.replicate k.toNatClampNeg (defaultValue ty) } i).heap.size < e.platform.maxCells ∧ (mnU ((T.setVm vm₁).pushCell { cls := cA, slots := Array.replicate n.toNatClampNeg .null }) T.heap.size { cls := comp, slots := Array.replicate k.toNatClampNeg (defaultValue ty) } i).slotsUsed + k.toNatClampNeg ≤ e.platform.maxSlots := by
    intro i hi
    obtain ⟨Lx, -, Xi⟩ := ST i
    have hm := Nat.mul_le_mul_right k.toNatClampNeg (show i + 1 ≤ n.toNatClampNeg from hi)
    rw [Nat.succ_mul] at hm
    exact Xi.roomAbove (a := 1) (b := k.toNatClampNeg) (by omega) (by omega)
  obtain ⟨f1, f2, f3, f4, cell, f5, f6, f7, f8, f9⟩ := F.all n.toNatClampNeg
  obtain ⟨Lx, hLx, XN⟩ := ST n.toNatClampNeg
  obtain ⟨t', a1, b1⟩ := kk _ cA comp kA kC ce' Lx cell hLx hnameA hcomp hkA hkindA hkC hkindC f1 (fun q hq => (f3 q hq).trans (State.heap_pushCell_of_lt (T.setVm vm₁) _ hq)) f5 f6 f7 f8 (fun j hj => by rw [f9 j hj, if_pos hj]) f4 _ rfl XN
  obtain ⟨hr1, hr2⟩ := X.roomAbove hcells hslots
  refine ⟨t', ?_, b1⟩
  have hm0 : (T.setTop (F0 m pc ls (.int k :: .int n :: rest))).method? = some m := State.method?_setTop _ X.here.top
  have hg2 : (Jvm.resolveClass m.cls index).Gives e.toSetting (T.setTop (F0 m pc ls (.int k :: .int n :: rest))).vm (.ok cA) vm₁ := hg₁
  jvm_step X.here [hexec, hdg]
  simp only [Op.multianewarray.sem, wp_bind', W.resolveClassAt_links hm0 hg2]
  rw [W.popN, if_neg (by decide)]
  refine ⟨F0 m pc ls (.int k :: .int n :: rest), State.topJava?_setTop' (s := T.setVm vm₁) _ X.here.top, [.int n, .int k], rest, rfl, rfl, ?_⟩
  simp only [List.mapM_cons, List.mapM_nil, wp_bind', wp_pure']
  have eS : ((T.setTop (F0 m pc ls (.int k :: .int n :: rest))).setVm vm₁).setTop (F0 m pc ls rest) = (T.setVm vm₁).setTop (F0 m pc ls rest) := by
    show ((T.setVm vm₁).setTop _).setTop _ = _
    rw [State.setTop_setTop]
  refine eS ▸ mn_make (S0 := T.setVm vm₁) (kA := kA₁) (kC := kC₁) (g' := F0 m pc ls rest) hkA₁ hkindA₁ hkC₁ hkindC₁ hn hk hl1 hh1 hl2 hh2 hdf (by show T.heap.size < _; omega) (by show T.slotsUsed + _ ≤ _; omega) _ rfl F room (fun d' acts' => ?_)
  simp only [wp_bind', W.mark, W.pushRef, State.topJava?_setTop' _ XN.here.top, Option.some.injEq, exists_eq_left', State.setTop_setTop, State.heap_setTop]
  have htop : (mnU ((T.setVm vm₁).pushCell { cls := cA, slots := Array.replicate n.toNatClampNeg Value.null }) (T.setVm vm₁).heap.size { cls := comp, slots := Array.replicate k.toNatClampNeg (defaultValue ty) } n.toNatClampNeg).topJava?.isSome := XN.here.top
  refine ⟨F0 m pc ls rest, State.topJava?_setTop' _ htop, fun acts => ?_⟩
  simp [jvm, htop]
  exact a1
end MNA
