/-! The world as one memory. Every cell that the two constructors make has a number (in the order of making); what a cell is, how long it is and where its references lead never changes afterwards. So a state of both objects is a memory: ints by cell and place, longs by cell and place. -/
abbrev MT : Type := MethodName × ByteArray × Nat × Option FieldType × Nat × Nat
abbrev Mem : Type := (Nat → Nat → Int32) × (Nat → Nat → Int64)
abbrev EV : Type := Launch × va_G × (Nat → ClassId) × Nat
def tbG : List Cond := lw_tbl.filter goodWord
theorem tb_mem {w : Cond} (h : w ∈ lw_tbl) (g : goodWord w = true) : w ∈ tbG := List.mem_filter.mpr ⟨h, g⟩
theorem tb_at (i : Nat) {w : Cond} (h : tables_1[i]? = some w) (g : goodWord w = true) : w ∈ tbG := tb_mem (List.mem_append_right _ (List.mem_of_getElem? h)) g
theorem tb_ps (i : Nat) {w : Cond} (h : (k2_sels lw_privs)[i]? = some w) (g : goodWord w = true) : w ∈ tbG := tb_mem (List.mem_append_left _ (List.mem_of_getElem? h)) g
theorem tb_good {w : Cond} (h : w ∈ tbG) : (w.onTables && w.keeps) = true ∨ ∃ ty, w = .arrayClass ty := good_of_word (List.mem_filter.mp h).2
theorem tb_in : GoodIn tbG tbG := fun w h => ⟨h, tb_good h⟩
theorem tb_places {ws : List Cond} (ps : List Nat) (hp : ws = ps.filterMap (fun i => tables_1[i]?)) (g : ws.all goodWord = true) : ∀ w ∈ ws, w ∈ tbG := by
  intro w hw
  have h1 := List.all_eq_true.mp g w hw
  rw [hp] at hw
  obtain ⟨i, -, hi⟩ := List.mem_filterMap.mp hw
  exact tb_at i hi h1
def mws (M : MT) : List Cond := Cond.code M.1 M.2.1 M.2.2.1 M.2.2.2.1 :: tbG
def mrm (M : MT) : Room := { frames := M.2.2.2.2.1, cells := 0, slots := 0, locals := M.2.2.2.2.2 }
theorem mws_good {M : MT} (h : Cond.code M.1 M.2.1 M.2.2.1 M.2.2.2.1 ∈ tbG) : GoodIn tbG (mws M) := fun w hw => by
  rcases List.mem_cons.mp hw with rfl | h2
  · exact ⟨h, tb_good h⟩
  · exact tb_in w h2
def shp : List (Nat × Nat × List Nat) := [(10, 12, [1, 3, 4, 6, 8, 11, 27, 42, 78, 83, 95, 107]), (3, 6, [2, 0, 0, 0, 0, 0]), (20, 18, []), (23, 4, []), (5, 2, [5, 0]), (20, 60, []), (5, 2, [7, 0]), (20, 60, []), (2, 6, [1, 9, 0, 0, 0, 0]), (5, 2, [10, 0]), (20, 60, []), (6, 6, [1, 12, 24, 0, 25, 26]), (0, 3, [13, 22, 23]), (24, 8, []), (20, 8, []), (20, 8, []), (20, 8, []), (20, 8, []), (20, 8, []), (20, 8, []), (20, 8, []), (20, 8, []), (20, 8, []), (20, 8, []), (20, 120, []), (21, 8, []), (21, 8, []), (1, 4, [1, 28, 40, 41]), (0, 3, [29, 38, 39]), (24, 8, []), (20, 8, []), (20, 8, []), (20, 8, []), (20, 8, []), (20, 8, []), (20, 8, []), (20, 8, []), (20, 8, []), (20, 8, []), (20, 8, []), (20, 8, []), (20, 8, []), (9, 7, [1, 43, 55, 56, 75, 76, 77]), (0, 3, [44, 53, 54]), (24, 8, []), (20, 8, []), (20, 8, []), (20, 8, []), (20, 8, []), (20, 8, []), (20, 8, []), (20, 8, []), (20, 8, []), (20, 8, []), (20, 8, []), (20, 8, []), (25, 18, []), (21, 104, []), (21, 104, []), (21, 104, []), (21, 104, []), (21, 104, []), (21, 104, []), (21, 104, []), (21, 104, []), (21, 104, []), (21, 104, []), (21, 104, []), (21, 104, []), (21, 104, []), (21, 104, []), (21, 104, []), (21, 104, []), (21, 104, []), (21, 104, []), (21, 104, []), (21, 104, []), (21, 13, []), (4, 5, [79, 80, 81, 82, 0]), (20, 132, []), (20, 12, []), (20, 12, []), (20, 144, []), (0, 3, [84, 93, 94]), (24, 8, []), (20, 8, []), (20, 8, []), (20, 8, []), (20, 8, []), (20, 8, []), (20, 8, []), (20, 8, []), (20, 8, []), (20, 8, []), (20, 8, []), (0, 3, [96, 105, 106]), (24, 8, []), (20, 8, []), (20, 8, []), (20, 8, []), (20, 8, []), (20, 8, []), (20, 8, []), (20, 8, []), (20, 8, []), (20, 8, []), (20, 8, []), (7, 4, [108, 113, 114, 0]), (24, 4, []), (20, 60, []), (20, 60, []), (20, 60, []), (20, 60, []), (20, 4, []), (20, 4, []), (8, 3, [116, 0, 0]), (20, 50, []), (8, 3, [118, 0, 0]), (20, 50, []), (8, 3, [120, 0, 0]), (20, 50, []), (8, 3, [122, 0, 0]), (20, 50, []), (11, 35, [124, 125, 126, 127, 0, 128, 129, 0, 0, 130, 131, 132, 0, 0, 133, 134, 0, 135, 136, 137, 0, 0, 0, 0, 138, 139, 140, 141, 0, 142, 143, 144, 145, 146, 147]), (20, 4, []), (20, 4, []), (20, 240, []), (20, 60, []), (20, 140, []), (20, 4, []), (20, 9, []), (20, 9, []), (22, 9, []), (20, 120, []), (20, 2, []), (20, 64, []), (21, 64, []), (20, 120, []), (20, 96, []), (21, 15808, []), (21, 13, []), (21, 13, []), (20, 720, []), (20, 12, []), (22, 12, []), (20, 11, []), (20, 64, []), (20, 64, [])]
def NC : Nat := 148
def kd (o : Nat) : Nat := (shp.getD o (99, 0, [])).1
def ln (o : Nat) : Nat := (shp.getD o (99, 0, [])).2.1
def rf (o k : Nat) : Nat := if kd o = 23 then 115 + 2 * k else if kd o < 23 then (shp.getD o (99, 0, [])).2.2.getD k 0 else o + 1 + k
def ftys : List (List Nat) := [[1, 1, 1], [1, 1, 1, 1], [1, 1, 0, 0, 0, 0], [1, 0, 0, 0, 0, 0], [1, 1, 1, 1, 0], [1, 0], [1, 1, 1, 0, 1, 1], [1, 1, 1, 0], [1, 0, 0], [1, 1, 1, 1, 1, 1, 1], [1, 1, 1, 1, 1, 1, 1, 1, 1, 1, 1, 1], [1, 1, 1, 1, 0, 1, 1, 0, 0, 1, 1, 1, 0, 0, 1, 1, 0, 1, 1, 1, 0, 0, 2, 3, 1, 1, 1, 1, 0, 1, 1, 1, 1, 1, 1]]
abbrev classes : List vw_C := [(RX0, TX0, 3), (RX1, TX1, 4), (RX2, TX2, 6), (RX3, TX3, 6), (RX4, TX4, 5), (RX5, TX5, 2), (RX6, TX6, 6), (RX7, TX7, 4), (RX8, TX8, 3), (RX9, TX9, 7), (RX10, TX10, 12), (RX11, TX11, 35)]
def ft (c k : Nat) : Nat := (ftys.getD c []).getD k 0
/-- a value with its cell's number for its address -/
def sh (sz : Nat) (v : Value) : Value := match v with
  | .ref a => .ref (sz + a)
  | w => w
def shl (sz : Nat) (q : Nat × Value) : Nat × Value := (q.1, sh sz q.2)
/-- what a field holds -/
def fp (μ : Mem) (o k : Nat) : Value := if ft (kd o) k = 1 then .ref (rf o k) else if ft (kd o) k = 2 then .long (μ.2 o k) else .int (μ.1 o k)
def ce (E : EV) (μ : Mem) (o : Nat) : va_E :=
  if kd o < 20 then .inr (kd o, (List.range (ln o)).map (fun k => sh E.2.2.2 (fp μ o k)))
  else .inl (E.2.2.1 (kd o), ln o, if kd o = 21 then .inr (.inl (μ.2 o)) else if kd o < 23 then .inl (μ.1 o) else .inr (.inr (.inr (.inr (fun j => some (E.2.2.2 + rf o j))))))
def wd (E : EV) (μ : Mem) : va_W := (List.range NC).map (fun o => (E.2.2.2 + o, ce E μ o))
abbrev tys (E : EV) : List (ClassId × FieldType) := [(E.2.2.1 20, .int), (E.2.2.1 21, .long), (E.2.2.1 22, .boolean), (E.2.2.1 23, .object "StampsCancel$Text"), (E.2.2.1 24, .array .int), (E.2.2.1 25, .array .long)]
def nw (s : State) : Prop := va_Nw (.methodLinkNest RX0 35 yX10_isTown RX10) s ∧ va_Nw (.methodLinkNest RX6 96 yX10_isTown RX10) s ∧ va_Nw (.methodLinkNest RX9 47 yX10_isTown RX10) s
theorem nw_warm {s U : State} (hW : s.WarmedH U.vm) (h : nw s) : nw U := ⟨va_Nw.warmM hW h.1, va_Nw.warmM hW h.2.1, va_Nw.warmM hW h.2.2⟩
theorem nw_same {s U : State} (hW : s.vm = U.vm) (h : nw s) : nw U := ⟨va_Nw.same rfl hW h.1, va_Nw.same rfl hW h.2.1, va_Nw.same rfl hW h.2.2⟩
/-- one int, one long of the memory becomes another -/
def mI (μ : Mem) (o k : Nat) (x : Int32) : Mem := (fun a b => if a = o ∧ b = k then x else μ.1 a b, μ.2)
def mJ (μ : Mem) (o k : Nat) (x : Int64) : Mem := (μ.1, fun a b => if a = o ∧ b = k then x else μ.2 a b)
theorem kd_lt {o : Nat} (h : kd o ≠ 99) : o < NC := by
  rcases Nat.lt_or_ge o NC with q | q
  · exact q
  · refine absurd ?_ h
    unfold kd
    rw [List.getD_eq_getElem?_getD, List.getElem?_eq_none (by exact q)]
    rfl
theorem kd_lt20 {o : Nat} (h : kd o < 30) : o < NC := kd_lt (by omega)
theorem wd_get {E : EV} {μ : Mem} {o : Nat} (h : o < NC) : (wd E μ)[o]? = some (E.2.2.2 + o, ce E μ o) := by
  unfold wd
  rw [List.getElem?_map, List.getElem?_range h]
  rfl
theorem wd_D (E : EV) (μ : Mem) : va_D (fun q => E.2.2.2 ≤ q) (wd E μ) := by
  refine ⟨fun i j p q hi hj hpq => ?_, fun k q hk => ?_⟩
  · have li : i < NC := by
      have := (List.getElem?_eq_some_iff.mp hi).1
      simpa [wd] using this
    have lj : j < NC := by
      have := (List.getElem?_eq_some_iff.mp hj).1
      simpa [wd] using this
    rw [wd_get li] at hi
    rw [wd_get lj] at hj
    cases hi
    cases hj
    have : E.2.2.2 + i = E.2.2.2 + j := hpq
    omega
  · have lk : k < NC := by
      have := (List.getElem?_eq_some_iff.mp hk).1
      simpa [wd] using this
    rw [wd_get lk] at hk
    cases hk
    exact Nat.le_add_right _ _
theorem wd_set {E : EV} {μ ν : Mem} {o : Nat} {x : va_E} (h : o < NC) (hx : ce E ν o = x) (hn : ∀ a, a ≠ o → ce E ν a = ce E μ a) : (wd E μ).set o (E.2.2.2 + o, x) = wd E ν := by
  apply List.ext_getElem?
  intro i
  rw [List.getElem?_set]
  by_cases e : o = i
  · subst e
    rw [if_pos rfl, if_pos (by simpa [wd] using h), wd_get h, hx]
  · rw [if_neg e]
    unfold wd
    rw [List.getElem?_map, List.getElem?_map]
    by_cases l : i < NC
    · rw [List.getElem?_range l]
      show some (E.2.2.2 + i, ce E μ i) = some (E.2.2.2 + i, ce E ν i)
      rw [hn i (fun q => e q.symm)]
    · rw [List.getElem?_eq_none (by simpa using l)]
      rfl
theorem mI_ne {μ : Mem} {o k : Nat} {x : Int32} {a : Nat} (h : a ≠ o) : (mI μ o k x).1 a = μ.1 a := by
  funext b
  simp [mI, h]
theorem mJ_ne {μ : Mem} {o k : Nat} {x : Int64} {a : Nat} (h : a ≠ o) : (mJ μ o k x).2 a = μ.2 a := by
  funext b
  simp [mJ, h]
theorem ce_congr {E : EV} {μ ν : Mem} {a : Nat} (h1 : ν.1 a = μ.1 a) (h2 : ν.2 a = μ.2 a) : ce E ν a = ce E μ a := by
  unfold ce fp
  rw [h1, h2]
theorem ce_mI {E : EV} {μ : Mem} {o k : Nat} {x : Int32} {a : Nat} (h : a ≠ o) : ce E (mI μ o k x) a = ce E μ a := ce_congr (mI_ne h) rfl
theorem ce_mJ {E : EV} {μ : Mem} {o k : Nat} {x : Int64} {a : Nat} (h : a ≠ o) : ce E (mJ μ o k x) a = ce E μ a := ce_congr rfl (mJ_ne h)
/-- what a method's body stands on -/
def Cx (E : EV) (M : MT) (p : Program) (s : State) (m : MethodId) (args : Array Value) (meth : Method) (c : Code) : Prop :=
  p.tables.exec = Jvm.exec ∧ c.code = M.2.1 ∧ meth.sig.returnType = M.2.2.2.1 ∧ c.maxLocals = M.2.2.1 ∧ s.vm.findClass M.1.cls = some m.cls ∧ (∀ w ∈ tbG, w.before args s = true) ∧ meth.locks = false ∧ va_K E.2.1 classes (tys E) s ∧ nw s
abbrev Po : Type := Option Value → Mem → Prop
abbrev Fz (E : EV) : Nat → Prop := fun q => E.2.2.2 ≤ q
def Qd (E : EV) (Q : Po) : Array Value → State → Outcome → State → Prop := fun _ st o t => (∃ (v : Option Value) (ν : Mem), o = .returned (v.map (sh E.2.2.2)) ∧ Q v ν ∧ va_P E.2.1 classes (wd E ν) t.heap) ∧ va_F (Fz E) st t
/-- from this place of the body, with these locals, this stack and this memory, the method comes to its end, and Q holds of its answer and of the memory then -/
def Ex (E : EV) (M : MT) (Q : Po) (pc : Nat) (ls : List (Nat × Value)) (st : List Value) (μ : Mem) : Prop :=
  ∀ (p : Program) (e : Env) (s : State) (m : MethodId) (args : Array Value) (below : List Frame) (meth : Method) (c : Code), Cx E M p s m args meth c →
    ∀ (H : Heap) (locs : List Loc) (lr : Array Slot), lv_has lr M.2.2.1 (ls.map (shl E.2.2.2)) → va_P E.2.1 classes (wd E μ) H → va_S (Fz E) s.heap H locs →
      W p E.1 e (mrm M) s m args below meth c H locs 0 0 (MQ below (Qd E Q) args s 0 0 (Fz E)) (F0 m pc lr (st.map (sh E.2.2.2)))
/-- a method's contract: with these arguments and this memory it ends, and Q holds -/
def Sp (E : EV) (M : MT) (as : List Value) (μ : Mem) (Q : Po) : Prop :=
  Met E.1 M.1 (mws M) (mrm M) (va_Pc (as.map (sh E.2.2.2)) (fun U => va_P E.2.1 classes (wd E μ) U.heap ∧ va_K E.2.1 classes (tys E) U ∧ nw U)) (Qd E Q) 0 0 (Fz E)
theorem sh_cat (sz : Nat) (v : Value) : (sh sz v).category = v.category := by cases v <;> rfl
theorem lv_args_sh (sz : Nat) : ∀ (as : List Value) (i : Nat), lv_args i (as.map (sh sz)) = (lv_args i as).map (shl sz)
  | [], _ => rfl
  | v :: as, i => by
    show (i, sh sz v) :: lv_args (if (sh sz v).category = 2 then i + 2 else i + 1) (as.map (sh sz)) = (i, sh sz v) :: (lv_args (if v.category = 2 then i + 2 else i + 1) as).map (shl sz)
    rw [sh_cat, lv_args_sh sz as]
theorem lg_sl_len (sz : Nat) : ∀ as : List Value, (lg_sl (as.map (sh sz))).length = (lg_sl as).length
  | [] => rfl
  | v :: as => by
    have h := lg_sl_len sz as
    unfold lg_sl at h ⊢
    rw [List.map_cons, List.flatMap_cons, List.flatMap_cons, List.length_append, List.length_append, h, sh_cat]
    by_cases q : v.category = 2 <;> simp [q]
theorem Sp.of {E : EV} {M : MT} {as : List Value} {μ : Mem} {Q : Po} (hy : plainName M.1.cls = true) (hn : (lg_sl as).length ≤ M.2.2.1) {ls : List (Nat × Value)} (hl : lv_args 0 as = ls) (h : Ex E M Q 0 ls [] μ) : Sp E M as μ Q := by
  refine Met.ofW (cc := M.2.1) (maxL := M.2.2.1) (ret := M.2.2.2.1) hy rfl ?_
  intro p e s m args below meth c s₁ B hml hv
  obtain ⟨rfl, hP, hK, hN⟩ := hv
  have hts := atoms_spec (ws := mws M) B.pre
  have hown : s.vm.findClass M.1.cls = some m.cls := findClass_of_methodNamed B.named
  subst hl
  have he := lv_entry (as.map (sh E.2.2.2)) (n := M.2.2.1) (by rw [lg_sl_len]; exact hn)
  rw [lv_args_sh] at he
  rw [lg_entry_eq]
  exact h p e s m _ below meth c ⟨B.exec, B.bytes, B.returns, hml, hown, fun w hw => hts w (List.mem_cons_of_mem _ hw), B.notSynchronized, hK, hN⟩ s.heap [] _ he hP va_S.rf
theorem MQ.mono {E : EV} {below : List Frame} {Q Q' : Po} {a : Array Value} {s t : State} (h : ∀ v ν, Q v ν → Q' v ν) (hq : MQ below (Qd E Q) a s 0 0 (Fz E) t) : MQ below (Qd E Q') a s 0 0 (Fz E) t := by
  obtain ⟨o, h1, h2, ⟨⟨v, ν, h3, h4, h5⟩, h6⟩, h7⟩ := hq
  exact ⟨o, h1, h2, ⟨⟨v, ν, h3, h v ν h4, h5⟩, h6⟩, h7⟩
theorem Ex.mono {E : EV} {M : MT} {Q Q' : Po} {pc : Nat} {ls : List (Nat × Value)} {st : List Value} {μ : Mem} (h : ∀ v ν, Q v ν → Q' v ν) (k : Ex E M Q pc ls st μ) : Ex E M Q' pc ls st μ := by
  intro p e s m args below meth c hc H locs lr hl hP hS T hT X
  obtain ⟨t, a, b⟩ := k p e s m args below meth c hc H locs lr hl hP hS T hT X
  exact ⟨t, a, MQ.mono h b⟩
theorem Sp.mono {E : EV} {M : MT} {as : List Value} {μ : Mem} {Q Q' : Po} (k : Sp E M as μ Q) (h : ∀ v ν, Q v ν → Q' v ν) : Sp E M as μ Q' := by
  intro p e ha hc hk s m args below hf happ hP hT
  obtain ⟨t, o, h1, h2, h3, ⟨⟨v, ν, q1, q2, q3⟩, q4⟩, h5⟩ := k p e ha hc hk s m args below hf happ hP hT
  exact ⟨t, o, h1, h2, h3, ⟨⟨v, ν, q1, h v ν q2, q3⟩, q4⟩, h5⟩
