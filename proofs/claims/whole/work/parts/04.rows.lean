section XR
variable {E : EV} {M : MT} {Q : Po} {pc : Nat} {ls : List (Nat × Value)} {st : List Value} {μ : Mem}
theorem x_iconst {n : Int} {v : Int32} (hv : Int32.ofInt n = v) (hd : decode M.2.1 pc = .ok (.iconst n, 1)) (k : Ex E M Q (pc + 1) ls (.int v :: st) μ) : Ex E M Q pc ls (st) μ := by
  intro p e s m args below meth c hc H locs lr hl hP hS
  exact lv_iconst hc.1 hc.2.1 hd hv (k p e s m args below meth c hc H locs lr hl hP hS)
theorem x_bipush {n : Int} {v : Int32} (hv : (Int8.ofInt n).toInt32 = v) (hd : decode M.2.1 pc = .ok (.bipush n, 2)) (k : Ex E M Q (pc + 2) ls (.int v :: st) μ) : Ex E M Q pc ls (st) μ := by
  intro p e s m args below meth c hc H locs lr hl hP hS
  exact lv_bipush hc.1 hc.2.1 hd hv (k p e s m args below meth c hc H locs lr hl hP hS)
theorem x_sipush {n : Int} {v : Int32} (hv : (Int16.ofInt n).toInt32 = v) (hd : decode M.2.1 pc = .ok (.sipush n, 3)) (k : Ex E M Q (pc + 3) ls (.int v :: st) μ) : Ex E M Q pc ls (st) μ := by
  intro p e s m args below meth c hc H locs lr hl hP hS
  exact lv_sipush hc.1 hc.2.1 hd hv (k p e s m args below meth c hc H locs lr hl hP hS)
theorem x_lconst {n : Fin 2} {v : Int64} (hv : Int64.ofNat (n : Nat) = v) (hd : decode M.2.1 pc = .ok (.lconst n, 1)) (k : Ex E M Q (pc + 1) ls (.long v :: st) μ) : Ex E M Q pc ls (st) μ := by
  intro p e s m args below meth c hc H locs lr hl hP hS
  exact lv_lconst hc.1 hc.2.1 hd hv (k p e s m args below meth c hc H locs lr hl hP hS)
theorem x_iadd {x y : Int32} (hd : decode M.2.1 pc = .ok (.iadd, 1)) (k : Ex E M Q (pc + 1) ls (.int (x + y) :: st) μ) : Ex E M Q pc ls (.int y :: .int x :: st) μ := by
  intro p e s m args below meth c hc H locs lr hl hP hS
  exact lv_iadd hc.1 hc.2.1 hd  (k p e s m args below meth c hc H locs lr hl hP hS)
theorem x_isub {x y : Int32} (hd : decode M.2.1 pc = .ok (.isub, 1)) (k : Ex E M Q (pc + 1) ls (.int (x - y) :: st) μ) : Ex E M Q pc ls (.int y :: .int x :: st) μ := by
  intro p e s m args below meth c hc H locs lr hl hP hS
  exact lv_isub hc.1 hc.2.1 hd  (k p e s m args below meth c hc H locs lr hl hP hS)
theorem x_imul {x y : Int32} (hd : decode M.2.1 pc = .ok (.imul, 1)) (k : Ex E M Q (pc + 1) ls (.int (x * y) :: st) μ) : Ex E M Q pc ls (.int y :: .int x :: st) μ := by
  intro p e s m args below meth c hc H locs lr hl hP hS
  exact lv_imul hc.1 hc.2.1 hd  (k p e s m args below meth c hc H locs lr hl hP hS)
theorem x_iand {x y : Int32} (hd : decode M.2.1 pc = .ok (.iand, 1)) (k : Ex E M Q (pc + 1) ls (.int (x &&& y) :: st) μ) : Ex E M Q pc ls (.int y :: .int x :: st) μ := by
  intro p e s m args below meth c hc H locs lr hl hP hS
  exact lv_iand hc.1 hc.2.1 hd  (k p e s m args below meth c hc H locs lr hl hP hS)
theorem x_ior {x y : Int32} (hd : decode M.2.1 pc = .ok (.ior, 1)) (k : Ex E M Q (pc + 1) ls (.int (x ||| y) :: st) μ) : Ex E M Q pc ls (.int y :: .int x :: st) μ := by
  intro p e s m args below meth c hc H locs lr hl hP hS
  exact lv_ior hc.1 hc.2.1 hd  (k p e s m args below meth c hc H locs lr hl hP hS)
theorem x_ixor {x y : Int32} (hd : decode M.2.1 pc = .ok (.ixor, 1)) (k : Ex E M Q (pc + 1) ls (.int (x ^^^ y) :: st) μ) : Ex E M Q pc ls (.int y :: .int x :: st) μ := by
  intro p e s m args below meth c hc H locs lr hl hP hS
  exact lv_ixor hc.1 hc.2.1 hd  (k p e s m args below meth c hc H locs lr hl hP hS)
theorem x_idiv {x y : Int32} (hne : ¬ y = 0) (hd : decode M.2.1 pc = .ok (.idiv, 1)) (k : Ex E M Q (pc + 1) ls (.int (x / y) :: st) μ) : Ex E M Q pc ls (.int y :: .int x :: st) μ := by
  intro p e s m args below meth c hc H locs lr hl hP hS
  exact lv_idiv hc.1 hc.2.1 hd hne (k p e s m args below meth c hc H locs lr hl hP hS)
theorem x_irem {x y : Int32} (hne : ¬ y = 0) (hd : decode M.2.1 pc = .ok (.irem, 1)) (k : Ex E M Q (pc + 1) ls (.int (x - x / y * y) :: st) μ) : Ex E M Q pc ls (.int y :: .int x :: st) μ := by
  intro p e s m args below meth c hc H locs lr hl hP hS
  exact lv_irem hc.1 hc.2.1 hd hne (k p e s m args below meth c hc H locs lr hl hP hS)
theorem x_ineg {x : Int32} (hd : decode M.2.1 pc = .ok (.ineg, 1)) (k : Ex E M Q (pc + 1) ls (.int (-x) :: st) μ) : Ex E M Q pc ls (.int x :: st) μ := by
  intro p e s m args below meth c hc H locs lr hl hP hS
  exact lv_ineg hc.1 hc.2.1 hd  (k p e s m args below meth c hc H locs lr hl hP hS)
theorem x_ladd {x y : Int64} (hd : decode M.2.1 pc = .ok (.ladd, 1)) (k : Ex E M Q (pc + 1) ls (.long (x + y) :: st) μ) : Ex E M Q pc ls (.long y :: .long x :: st) μ := by
  intro p e s m args below meth c hc H locs lr hl hP hS
  exact lv_ladd hc.1 hc.2.1 hd  (k p e s m args below meth c hc H locs lr hl hP hS)
theorem x_lsub {x y : Int64} (hd : decode M.2.1 pc = .ok (.lsub, 1)) (k : Ex E M Q (pc + 1) ls (.long (x - y) :: st) μ) : Ex E M Q pc ls (.long y :: .long x :: st) μ := by
  intro p e s m args below meth c hc H locs lr hl hP hS
  exact lv_lsub hc.1 hc.2.1 hd  (k p e s m args below meth c hc H locs lr hl hP hS)
theorem x_lmul {x y : Int64} (hd : decode M.2.1 pc = .ok (.lmul, 1)) (k : Ex E M Q (pc + 1) ls (.long (x * y) :: st) μ) : Ex E M Q pc ls (.long y :: .long x :: st) μ := by
  intro p e s m args below meth c hc H locs lr hl hP hS
  exact lv_lmul hc.1 hc.2.1 hd  (k p e s m args below meth c hc H locs lr hl hP hS)
theorem x_ishl {x y : Int32} (hd : decode M.2.1 pc = .ok (.ishl, 1)) (k : Ex E M Q (pc + 1) ls (.int (x <<< (y &&& 31)) :: st) μ) : Ex E M Q pc ls (.int y :: .int x :: st) μ := by
  intro p e s m args below meth c hc H locs lr hl hP hS
  exact lv_ishl hc.1 hc.2.1 hd  (k p e s m args below meth c hc H locs lr hl hP hS)
theorem x_ishr {x y : Int32} (hd : decode M.2.1 pc = .ok (.ishr, 1)) (k : Ex E M Q (pc + 1) ls (.int (x >>> (y &&& 31)) :: st) μ) : Ex E M Q pc ls (.int y :: .int x :: st) μ := by
  intro p e s m args below meth c hc H locs lr hl hP hS
  exact lv_ishr hc.1 hc.2.1 hd  (k p e s m args below meth c hc H locs lr hl hP hS)
theorem x_iushr {x y : Int32} (hd : decode M.2.1 pc = .ok (.iushr, 1)) (k : Ex E M Q (pc + 1) ls (.int ((x.toUInt32 >>> (y.toUInt32 &&& Int32.toUInt32 31)).toInt32) :: st) μ) : Ex E M Q pc ls (.int y :: .int x :: st) μ := by
  intro p e s m args below meth c hc H locs lr hl hP hS
  exact lv_iushr hc.1 hc.2.1 hd rfl (k p e s m args below meth c hc H locs lr hl hP hS)
theorem x_i2l {x : Int32} (hd : decode M.2.1 pc = .ok (.i2l, 1)) (k : Ex E M Q (pc + 1) ls (.long x.toInt64 :: st) μ) : Ex E M Q pc ls (.int x :: st) μ := by
  intro p e s m args below meth c hc H locs lr hl hP hS
  exact lv_i2l hc.1 hc.2.1 hd rfl (k p e s m args below meth c hc H locs lr hl hP hS)
theorem x_i2b {x : Int32} (hd : decode M.2.1 pc = .ok (.i2b, 1)) (k : Ex E M Q (pc + 1) ls (.int x.toInt8.toInt32 :: st) μ) : Ex E M Q pc ls (.int x :: st) μ := by
  intro p e s m args below meth c hc H locs lr hl hP hS
  exact lv_i2b hc.1 hc.2.1 hd rfl (k p e s m args below meth c hc H locs lr hl hP hS)
theorem x_i2s {x : Int32} (hd : decode M.2.1 pc = .ok (.i2s, 1)) (k : Ex E M Q (pc + 1) ls (.int x.toInt16.toInt32 :: st) μ) : Ex E M Q pc ls (.int x :: st) μ := by
  intro p e s m args below meth c hc H locs lr hl hP hS
  exact lv_i2s hc.1 hc.2.1 hd rfl (k p e s m args below meth c hc H locs lr hl hP hS)
theorem x_lcmp {x y : Int64} (hd : decode M.2.1 pc = .ok (.lcmp, 1)) (k : Ex E M Q (pc + 1) ls (.int (lg_cmp x y) :: st) μ) : Ex E M Q pc ls (.long y :: .long x :: st) μ := by
  intro p e s m args below meth c hc H locs lr hl hP hS
  exact W.lcmp hc.1 hc.2.1 hd  (k p e s m args below meth c hc H locs lr hl hP hS)
theorem x_dupi {x : Int32} (hd : decode M.2.1 pc = .ok (.dup, 1)) (k : Ex E M Q (pc + 1) ls (.int x :: .int x :: st) μ) : Ex E M Q pc ls (.int x :: st) μ := by
  intro p e s m args below meth c hc H locs lr hl hP hS
  exact lv_dup hc.1 hc.2.1 hd rfl (k p e s m args below meth c hc H locs lr hl hP hS)
theorem x_dupr {a : Nat} (hd : decode M.2.1 pc = .ok (.dup, 1)) (k : Ex E M Q (pc + 1) ls (.ref a :: .ref a :: st) μ) : Ex E M Q pc ls (.ref a :: st) μ := by
  intro p e s m args below meth c hc H locs lr hl hP hS
  exact lv_dup hc.1 hc.2.1 hd rfl (k p e s m args below meth c hc H locs lr hl hP hS)
theorem x_dup2ri {a : Nat} {i : Int32} (hd : decode M.2.1 pc = .ok (.dup2, 1)) (k : Ex E M Q (pc + 1) ls (.int i :: .ref a :: .int i :: .ref a :: st) μ) : Ex E M Q pc ls (.int i :: .ref a :: st) μ := by
  intro p e s m args below meth c hc H locs lr hl hP hS
  exact lv_dup2_11 hc.1 hc.2.1 hd rfl rfl (k p e s m args below meth c hc H locs lr hl hP hS)
theorem x_dup2l {x : Int64} (hd : decode M.2.1 pc = .ok (.dup2, 1)) (k : Ex E M Q (pc + 1) ls (.long x :: .long x :: st) μ) : Ex E M Q pc ls (.long x :: st) μ := by
  intro p e s m args below meth c hc H locs lr hl hP hS
  exact lv_dup2_2 hc.1 hc.2.1 hd rfl (k p e s m args below meth c hc H locs lr hl hP hS)
theorem x_popi {x : Int32} (hd : decode M.2.1 pc = .ok (.pop, 1)) (k : Ex E M Q (pc + 1) ls (st) μ) : Ex E M Q pc ls (.int x :: st) μ := by
  intro p e s m args below meth c hc H locs lr hl hP hS
  exact lv_pop hc.1 hc.2.1 hd rfl (k p e s m args below meth c hc H locs lr hl hP hS)
theorem x_iload_n {k : Fin 4} {i : Nat} {x : Int32} (q : Nat) (hq : ls[q]? = some (i, .int x)) (hi : (k : Nat) = i) (hd : decode M.2.1 pc = .ok (.iload_n k, 1)) (h : Ex E M Q (pc + 1) ls (.int x :: st) μ) : Ex E M Q pc ls st μ := by
  intro p e s m args below meth c hc H locs lr hl hP hS
  exact lv_iload_n hc.1 hc.2.1 hd hi (lv_at hl q (by rw [List.getElem?_map, hq]; rfl)) (h p e s m args below meth c hc H locs lr hl hP hS)
theorem x_lload_n {k : Fin 4} {i : Nat} {x : Int64} (q : Nat) (hq : ls[q]? = some (i, .long x)) (hi : (k : Nat) = i) (hd : decode M.2.1 pc = .ok (.lload_n k, 1)) (h : Ex E M Q (pc + 1) ls (.long x :: st) μ) : Ex E M Q pc ls st μ := by
  intro p e s m args below meth c hc H locs lr hl hP hS
  exact lv_lload_n hc.1 hc.2.1 hd hi (lv_at hl q (by rw [List.getElem?_map, hq]; rfl)) (h p e s m args below meth c hc H locs lr hl hP hS)
theorem x_aload_n {k : Fin 4} {i : Nat} {x : Nat} (q : Nat) (hq : ls[q]? = some (i, .ref x)) (hi : (k : Nat) = i) (hd : decode M.2.1 pc = .ok (.aload_n k, 1)) (h : Ex E M Q (pc + 1) ls (.ref x :: st) μ) : Ex E M Q pc ls st μ := by
  intro p e s m args below meth c hc H locs lr hl hP hS
  exact lv_aload_n hc.1 hc.2.1 hd hi (lv_at hl q (by rw [List.getElem?_map, hq]; rfl)) (h p e s m args below meth c hc H locs lr hl hP hS)
theorem x_iload {i : Nat} {x : Int32} (q : Nat) (hq : ls[q]? = some (i, .int x)) (hd : decode M.2.1 pc = .ok (.iload i, 2)) (h : Ex E M Q (pc + 2) ls (.int x :: st) μ) : Ex E M Q pc ls st μ := by
  intro p e s m args below meth c hc H locs lr hl hP hS
  exact lv_iload hc.1 hc.2.1 hd (lv_at hl q (by rw [List.getElem?_map, hq]; rfl)) (h p e s m args below meth c hc H locs lr hl hP hS)
theorem x_lload {i : Nat} {x : Int64} (q : Nat) (hq : ls[q]? = some (i, .long x)) (hd : decode M.2.1 pc = .ok (.lload i, 2)) (h : Ex E M Q (pc + 2) ls (.long x :: st) μ) : Ex E M Q pc ls st μ := by
  intro p e s m args below meth c hc H locs lr hl hP hS
  exact lv_lload hc.1 hc.2.1 hd (lv_at hl q (by rw [List.getElem?_map, hq]; rfl)) (h p e s m args below meth c hc H locs lr hl hP hS)
theorem x_aload {i : Nat} {x : Nat} (q : Nat) (hq : ls[q]? = some (i, .ref x)) (hd : decode M.2.1 pc = .ok (.aload i, 2)) (h : Ex E M Q (pc + 2) ls (.ref x :: st) μ) : Ex E M Q pc ls st μ := by
  intro p e s m args below meth c hc H locs lr hl hP hS
  exact lv_aload hc.1 hc.2.1 hd (lv_at hl q (by rw [List.getElem?_map, hq]; rfl)) (h p e s m args below meth c hc H locs lr hl hP hS)
theorem xl_sub {sz nL : Nat} {lr : Array Slot} {l l' : List (Nat × Value)} (h : lv_has lr nL (l.map (shl sz))) (ks : List Nat) (hk : lv_pick l ks = l') : lv_has lr nL (l'.map (shl sz)) := by
  refine lv_sub h ks ?_
  subst hk
  unfold lv_pick
  induction ks with
  | nil => rfl
  | cons a t ih =>
    rw [List.filterMap_cons, List.filterMap_cons, List.getElem?_map]
    cases hq : l[a]? with
    | none => exact ih
    | some z =>
      show shl sz z :: _ = shl sz z :: _
      rw [ih]
theorem x_sub {l' : List (Nat × Value)} (ks : List Nat) (hk : lv_pick ls ks = l') (h : Ex E M Q pc l' st μ) : Ex E M Q pc ls st μ := by
  intro p e s m args below meth c hc H locs lr hl hP hS
  exact h p e s m args below meth c hc H locs lr (xl_sub hl ks hk) hP hS
/-- the locals behind a store -/
def st1 (i : Nat) (v : Value) (l : List (Nat × Value)) : List (Nat × Value) := (i, v) :: l.filter (fun q => !(q.1 == i) && !(q.1 + 1 == i && q.2.category == 2))
def st2 (i : Nat) (v : Value) (l : List (Nat × Value)) : List (Nat × Value) := (i, v) :: l.filter (fun q => !(q.1 == i) && (!(q.1 == i + 1) && !(q.1 + 1 == i && q.2.category == 2)))
theorem st1_sh (sz i : Nat) (v : Value) (l : List (Nat × Value)) : (i, sh sz v) :: (l.map (shl sz)).filter (fun q => !(q.1 == i) && !(q.1 + 1 == i && q.2.category == 2)) = (st1 i v l).map (shl sz) := by
  unfold st1
  rw [List.map_cons, List.filter_map]
  have e : ((fun q : Nat × Value => !(q.1 == i) && !(q.1 + 1 == i && q.2.category == 2)) ∘ shl sz) = (fun q : Nat × Value => !(q.1 == i) && !(q.1 + 1 == i && q.2.category == 2)) := by
    funext q
    simp [shl, sh_cat]
  rw [e]
  rfl
theorem st2_sh (sz i : Nat) (v : Value) (l : List (Nat × Value)) : (i, sh sz v) :: (l.map (shl sz)).filter (fun q => !(q.1 == i) && (!(q.1 == i + 1) && !(q.1 + 1 == i && q.2.category == 2))) = (st2 i v l).map (shl sz) := by
  unfold st2
  rw [List.map_cons, List.filter_map]
  have e : ((fun q : Nat × Value => !(q.1 == i) && (!(q.1 == i + 1) && !(q.1 + 1 == i && q.2.category == 2))) ∘ shl sz) = (fun q : Nat × Value => !(q.1 == i) && (!(q.1 == i + 1) && !(q.1 + 1 == i && q.2.category == 2))) := by
    funext q
    simp [shl, sh_cat]
  rw [e]
  rfl
theorem x_istore_n {k : Fin 4} {i : Nat} {x : Int32} {l' : List (Nat × Value)} (ks : List Nat) (hk : lv_pick (st1 i (.int x) ls) ks = l') (hi : (k : Nat) = i) (hn : i < M.2.2.1) (hd : decode M.2.1 pc = .ok (.istore_n k, 1)) (h : Ex E M Q (pc + 1) l' st μ) : Ex E M Q pc ls (.int x :: st) μ := by
  intro p e s m args below meth c hc H locs lr hl hP hS
  exact lv_istore_n hc.1 hc.2.1 hd hi hl hn (st1_sh _ i (.int x) ls) (fun lr hl => h p e s m args below meth c hc H locs lr (xl_sub hl ks hk) hP hS)
theorem x_lstore_n {k : Fin 4} {i : Nat} {x : Int64} {l' : List (Nat × Value)} (ks : List Nat) (hk : lv_pick (st2 i (.long x) ls) ks = l') (hi : (k : Nat) = i) (hn : i + 1 < M.2.2.1) (hd : decode M.2.1 pc = .ok (.lstore_n k, 1)) (h : Ex E M Q (pc + 1) l' st μ) : Ex E M Q pc ls (.long x :: st) μ := by
  intro p e s m args below meth c hc H locs lr hl hP hS
  exact lv_lstore_n hc.1 hc.2.1 hd hi hl hn (st2_sh _ i (.long x) ls) (fun lr hl => h p e s m args below meth c hc H locs lr (xl_sub hl ks hk) hP hS)
theorem x_astore_n {k : Fin 4} {i : Nat} {x : Nat} {l' : List (Nat × Value)} (ks : List Nat) (hk : lv_pick (st1 i (.ref x) ls) ks = l') (hi : (k : Nat) = i) (hn : i < M.2.2.1) (hd : decode M.2.1 pc = .ok (.astore_n k, 1)) (h : Ex E M Q (pc + 1) l' st μ) : Ex E M Q pc ls (.ref x :: st) μ := by
  intro p e s m args below meth c hc H locs lr hl hP hS
  exact lv_astore_n hc.1 hc.2.1 hd hi hl hn (st1_sh _ i (.ref x) ls) (fun lr hl => h p e s m args below meth c hc H locs lr (xl_sub hl ks hk) hP hS)
theorem x_istore {k : Fin 4} {i : Nat} {x : Int32} {l' : List (Nat × Value)} (ks : List Nat) (hk : lv_pick (st1 i (.int x) ls) ks = l') (hi : (k : Nat) = i) (hn : i < M.2.2.1) (hd : decode M.2.1 pc = .ok (.istore i, 2)) (h : Ex E M Q (pc + 2) l' st μ) : Ex E M Q pc ls (.int x :: st) μ := by
  intro p e s m args below meth c hc H locs lr hl hP hS
  exact lv_istore hc.1 hc.2.1 hd hl hn (st1_sh _ i (.int x) ls) (fun lr hl => h p e s m args below meth c hc H locs lr (xl_sub hl ks hk) hP hS)
theorem x_lstore {k : Fin 4} {i : Nat} {x : Int64} {l' : List (Nat × Value)} (ks : List Nat) (hk : lv_pick (st2 i (.long x) ls) ks = l') (hi : (k : Nat) = i) (hn : i + 1 < M.2.2.1) (hd : decode M.2.1 pc = .ok (.lstore i, 2)) (h : Ex E M Q (pc + 2) l' st μ) : Ex E M Q pc ls (.long x :: st) μ := by
  intro p e s m args below meth c hc H locs lr hl hP hS
  exact lv_lstore hc.1 hc.2.1 hd hl hn (st2_sh _ i (.long x) ls) (fun lr hl => h p e s m args below meth c hc H locs lr (xl_sub hl ks hk) hP hS)
theorem x_astore {k : Fin 4} {i : Nat} {x : Nat} {l' : List (Nat × Value)} (ks : List Nat) (hk : lv_pick (st1 i (.ref x) ls) ks = l') (hi : (k : Nat) = i) (hn : i < M.2.2.1) (hd : decode M.2.1 pc = .ok (.astore i, 2)) (h : Ex E M Q (pc + 2) l' st μ) : Ex E M Q pc ls (.ref x :: st) μ := by
  intro p e s m args below meth c hc H locs lr hl hP hS
  exact lv_astore hc.1 hc.2.1 hd hl hn (st1_sh _ i (.ref x) ls) (fun lr hl => h p e s m args below meth c hc H locs lr (xl_sub hl ks hk) hP hS)
theorem x_iinc {i : Nat} {n : Int} {x v : Int32} {l' : List (Nat × Value)} (q : Nat) (hq : ls[q]? = some (i, .int x)) (hv : x + Int32.ofInt n = v) (ks : List Nat) (hk : lv_pick (st1 i (.int v) ls) ks = l') (hn : i < M.2.2.1) (hd : decode M.2.1 pc = .ok (.iinc i n, 3)) (h : Ex E M Q (pc + 3) l' st μ) : Ex E M Q pc ls st μ := by
  intro p e s m args below meth c hc H locs lr hl hP hS
  exact lv_iinc (k := q) hc.1 hc.2.1 hd hl (by rw [List.getElem?_map, hq]; rfl) hv hn (st1_sh _ i (.int v) ls) (fun lr hl => h p e s m args below meth c hc H locs lr (xl_sub hl ks hk) hP hS)
theorem x_topi {x : Int32} (h : ∀ y : Int32, y = x → Ex E M Q pc ls (.int y :: st) μ) : Ex E M Q pc ls (.int x :: st) μ := h x rfl
theorem x_topl {x : Int64} (h : ∀ y : Int64, y = x → Ex E M Q pc ls (.long y :: st) μ) : Ex E M Q pc ls (.long x :: st) μ := h x rfl
theorem x_goto {off : Int} {tgt : Nat} (ht : (pc : Int) + off = (tgt : Int)) (hd : decode M.2.1 pc = .ok (.goto off, 3)) (h : Ex E M Q tgt ls st μ) : Ex E M Q pc ls st μ := by
  intro p e s m args below meth c hc H locs lr hl hP hS
  exact lv_goto hc.1 hc.2.1 hd ht (h p e s m args below meth c hc H locs lr hl hP hS)
theorem x_if_eq {x : Int32} {off : Int} {tgt : Nat} (ht : (pc : Int) + off = (tgt : Int)) (hd : decode M.2.1 pc = .ok (.ifCond .eq off, 3)) (kt : x = 0 → Ex E M Q tgt ls st μ) (kf : ¬ x = 0 → Ex E M Q (pc + 3) ls st μ) : Ex E M Q pc ls (.int x :: st) μ := by
  intro p e s m args below meth c hc H locs lr hl hP hS
  exact lv_if_eq hc.1 hc.2.1 hd ht (fun z => kt z p e s m args below meth c hc H locs lr hl hP hS) (fun z => kf z p e s m args below meth c hc H locs lr hl hP hS)
theorem x_icmp_eq {x y : Int32} {off : Int} {tgt : Nat} (ht : (pc : Int) + off = (tgt : Int)) (hd : decode M.2.1 pc = .ok (.if_icmp .eq off, 3)) (kt : x = y → Ex E M Q tgt ls st μ) (kf : ¬ x = y → Ex E M Q (pc + 3) ls st μ) : Ex E M Q pc ls (.int y :: .int x :: st) μ := by
  intro p e s m args below meth c hc H locs lr hl hP hS
  exact lv_icmp_eq hc.1 hc.2.1 hd ht (fun z => kt z p e s m args below meth c hc H locs lr hl hP hS) (fun z => kf z p e s m args below meth c hc H locs lr hl hP hS)
theorem x_if_ne {x : Int32} {off : Int} {tgt : Nat} (ht : (pc : Int) + off = (tgt : Int)) (hd : decode M.2.1 pc = .ok (.ifCond .ne off, 3)) (kt : ¬ x = 0 → Ex E M Q tgt ls st μ) (kf : x = 0 → Ex E M Q (pc + 3) ls st μ) : Ex E M Q pc ls (.int x :: st) μ := by
  intro p e s m args below meth c hc H locs lr hl hP hS
  exact lv_if_ne hc.1 hc.2.1 hd ht (fun z => kt z p e s m args below meth c hc H locs lr hl hP hS) (fun z => kf z p e s m args below meth c hc H locs lr hl hP hS)
theorem x_icmp_ne {x y : Int32} {off : Int} {tgt : Nat} (ht : (pc : Int) + off = (tgt : Int)) (hd : decode M.2.1 pc = .ok (.if_icmp .ne off, 3)) (kt : ¬ x = y → Ex E M Q tgt ls st μ) (kf : x = y → Ex E M Q (pc + 3) ls st μ) : Ex E M Q pc ls (.int y :: .int x :: st) μ := by
  intro p e s m args below meth c hc H locs lr hl hP hS
  exact lv_icmp_ne hc.1 hc.2.1 hd ht (fun z => kt z p e s m args below meth c hc H locs lr hl hP hS) (fun z => kf z p e s m args below meth c hc H locs lr hl hP hS)
theorem x_if_lt {x : Int32} {off : Int} {tgt : Nat} (ht : (pc : Int) + off = (tgt : Int)) (hd : decode M.2.1 pc = .ok (.ifCond .lt off, 3)) (kt : x < 0 → Ex E M Q tgt ls st μ) (kf : ¬ x < 0 → Ex E M Q (pc + 3) ls st μ) : Ex E M Q pc ls (.int x :: st) μ := by
  intro p e s m args below meth c hc H locs lr hl hP hS
  exact lv_if_lt hc.1 hc.2.1 hd ht (fun z => kt z p e s m args below meth c hc H locs lr hl hP hS) (fun z => kf z p e s m args below meth c hc H locs lr hl hP hS)
theorem x_icmp_lt {x y : Int32} {off : Int} {tgt : Nat} (ht : (pc : Int) + off = (tgt : Int)) (hd : decode M.2.1 pc = .ok (.if_icmp .lt off, 3)) (kt : x < y → Ex E M Q tgt ls st μ) (kf : ¬ x < y → Ex E M Q (pc + 3) ls st μ) : Ex E M Q pc ls (.int y :: .int x :: st) μ := by
  intro p e s m args below meth c hc H locs lr hl hP hS
  exact lv_icmp_lt hc.1 hc.2.1 hd ht (fun z => kt z p e s m args below meth c hc H locs lr hl hP hS) (fun z => kf z p e s m args below meth c hc H locs lr hl hP hS)
theorem x_if_ge {x : Int32} {off : Int} {tgt : Nat} (ht : (pc : Int) + off = (tgt : Int)) (hd : decode M.2.1 pc = .ok (.ifCond .ge off, 3)) (kt : 0 ≤ x → Ex E M Q tgt ls st μ) (kf : ¬ 0 ≤ x → Ex E M Q (pc + 3) ls st μ) : Ex E M Q pc ls (.int x :: st) μ := by
  intro p e s m args below meth c hc H locs lr hl hP hS
  exact lv_if_ge hc.1 hc.2.1 hd ht (fun z => kt z p e s m args below meth c hc H locs lr hl hP hS) (fun z => kf z p e s m args below meth c hc H locs lr hl hP hS)
theorem x_icmp_ge {x y : Int32} {off : Int} {tgt : Nat} (ht : (pc : Int) + off = (tgt : Int)) (hd : decode M.2.1 pc = .ok (.if_icmp .ge off, 3)) (kt : y ≤ x → Ex E M Q tgt ls st μ) (kf : ¬ y ≤ x → Ex E M Q (pc + 3) ls st μ) : Ex E M Q pc ls (.int y :: .int x :: st) μ := by
  intro p e s m args below meth c hc H locs lr hl hP hS
  exact lv_icmp_ge hc.1 hc.2.1 hd ht (fun z => kt z p e s m args below meth c hc H locs lr hl hP hS) (fun z => kf z p e s m args below meth c hc H locs lr hl hP hS)
theorem x_if_gt {x : Int32} {off : Int} {tgt : Nat} (ht : (pc : Int) + off = (tgt : Int)) (hd : decode M.2.1 pc = .ok (.ifCond .gt off, 3)) (kt : 0 < x → Ex E M Q tgt ls st μ) (kf : ¬ 0 < x → Ex E M Q (pc + 3) ls st μ) : Ex E M Q pc ls (.int x :: st) μ := by
  intro p e s m args below meth c hc H locs lr hl hP hS
  exact lv_if_gt hc.1 hc.2.1 hd ht (fun z => kt z p e s m args below meth c hc H locs lr hl hP hS) (fun z => kf z p e s m args below meth c hc H locs lr hl hP hS)
theorem x_icmp_gt {x y : Int32} {off : Int} {tgt : Nat} (ht : (pc : Int) + off = (tgt : Int)) (hd : decode M.2.1 pc = .ok (.if_icmp .gt off, 3)) (kt : y < x → Ex E M Q tgt ls st μ) (kf : ¬ y < x → Ex E M Q (pc + 3) ls st μ) : Ex E M Q pc ls (.int y :: .int x :: st) μ := by
  intro p e s m args below meth c hc H locs lr hl hP hS
  exact lv_icmp_gt hc.1 hc.2.1 hd ht (fun z => kt z p e s m args below meth c hc H locs lr hl hP hS) (fun z => kf z p e s m args below meth c hc H locs lr hl hP hS)
theorem x_if_le {x : Int32} {off : Int} {tgt : Nat} (ht : (pc : Int) + off = (tgt : Int)) (hd : decode M.2.1 pc = .ok (.ifCond .le off, 3)) (kt : x ≤ 0 → Ex E M Q tgt ls st μ) (kf : ¬ x ≤ 0 → Ex E M Q (pc + 3) ls st μ) : Ex E M Q pc ls (.int x :: st) μ := by
  intro p e s m args below meth c hc H locs lr hl hP hS
  exact lv_if_le hc.1 hc.2.1 hd ht (fun z => kt z p e s m args below meth c hc H locs lr hl hP hS) (fun z => kf z p e s m args below meth c hc H locs lr hl hP hS)
theorem x_icmp_le {x y : Int32} {off : Int} {tgt : Nat} (ht : (pc : Int) + off = (tgt : Int)) (hd : decode M.2.1 pc = .ok (.if_icmp .le off, 3)) (kt : x ≤ y → Ex E M Q tgt ls st μ) (kf : ¬ x ≤ y → Ex E M Q (pc + 3) ls st μ) : Ex E M Q pc ls (.int y :: .int x :: st) μ := by
  intro p e s m args below meth c hc H locs lr hl hP hS
  exact lv_icmp_le hc.1 hc.2.1 hd ht (fun z => kt z p e s m args below meth c hc H locs lr hl hP hS) (fun z => kf z p e s m args below meth c hc H locs lr hl hP hS)
theorem x_ldcw {own : String} {index : Nat} {v : Int32} (ho : M.1.cls = own) (hw : Cond.constant own index v ∈ tbG) (hd : decode M.2.1 pc = .ok (.ldc_w index, 3)) (h : Ex E M Q (pc + 3) ls (.int v :: st) μ) : Ex E M Q pc ls st μ := by
  intro p e s m args below meth c hc H locs lr hl hP hS
  subst ho
  exact lv_ldcw hc.1 hc.2.1 hc.2.2.2.2.1 (hc.2.2.2.2.2.1 _ hw) hd (h p e s m args below meth c hc H locs lr hl hP hS)
theorem x_ldc {own : String} {index : Nat} {v : Int32} (ho : M.1.cls = own) (hw : Cond.constant own index v ∈ tbG) (hd : decode M.2.1 pc = .ok (.ldc index, 2)) (h : Ex E M Q (pc + 2) ls (.int v :: st) μ) : Ex E M Q pc ls st μ := by
  intro p e s m args below meth c hc H locs lr hl hP hS
  subst ho
  exact lv_ldc hc.1 hc.2.1 hc.2.2.2.2.1 (hc.2.2.2.2.2.1 _ hw) hd (h p e s m args below meth c hc H locs lr hl hP hS)
theorem x_ldc2 {own : String} {index : Nat} {v : Int64} (ho : M.1.cls = own) (hw : Cond.constantLong own index v ∈ tbG) (hd : decode M.2.1 pc = .ok (.ldc2_w index, 3)) (h : Ex E M Q (pc + 3) ls (.long v :: st) μ) : Ex E M Q pc ls st μ := by
  intro p e s m args below meth c hc H locs lr hl hP hS
  subst ho
  exact lv_ldc2 hc.1 hc.2.1 hc.2.2.2.2.1 (hc.2.2.2.2.2.1 _ hw) hd (h p e s m args below meth c hc H locs lr hl hP hS)
theorem x_tabIn {dflt lo hi : Int} {offs : Array Int} {len : Nat} {x : Int32} {off : Int} {tgt : Nat} (h1 : ¬ x.toInt < lo) (h2 : ¬ hi < x.toInt) (ho : offs[(x.toInt - lo).toNat]? = some off) (ht : (pc : Int) + off = (tgt : Int)) (hd : decode M.2.1 pc = .ok (.tableswitch dflt lo hi offs, len)) (h : Ex E M Q tgt ls st μ) : Ex E M Q pc ls (.int x :: st) μ := by
  intro p e s m args below meth c hc H locs lr hl hP hS
  exact lv_tableIn hc.1 hc.2.1 hd h1 h2 ho ht (h p e s m args below meth c hc H locs lr hl hP hS)
theorem x_tabOut {dflt lo hi : Int} {offs : Array Int} {len : Nat} {x : Int32} {tgt : Nat} (h1 : x.toInt < lo ∨ hi < x.toInt) (ht : (pc : Int) + dflt = (tgt : Int)) (hd : decode M.2.1 pc = .ok (.tableswitch dflt lo hi offs, len)) (h : Ex E M Q tgt ls st μ) : Ex E M Q pc ls (.int x :: st) μ := by
  intro p e s m args below meth c hc H locs lr hl hP hS
  exact lv_tableOut hc.1 hc.2.1 hd h1 ht (h p e s m args below meth c hc H locs lr hl hP hS)
-- arrays
theorem ce_int {a : Nat} (h : kd a = 20) : ce E μ a = .inl (E.2.2.1 20, ln a, .inl (μ.1 a)) := by simp [ce, h]
theorem ce_bool {a : Nat} (h : kd a = 22) : ce E μ a = .inl (E.2.2.1 22, ln a, .inl (μ.1 a)) := by simp [ce, h]
theorem ce_long {a : Nat} (h : kd a = 21) : ce E μ a = .inl (E.2.2.1 21, ln a, .inr (.inl (μ.2 a))) := by simp [ce, h]
theorem ce_ref {a k : Nat} (h : kd a = k) (h1 : 23 ≤ k) : ce E μ a = .inl (E.2.2.1 k, ln a, .inr (.inr (.inr (.inr (fun j => some (E.2.2.2 + rf a j)))))) := by
  subst h
  unfold ce
  rw [if_neg (by omega), if_neg (by omega), if_neg (by omega)]
theorem upd_mI {o k : Nat} {x : Int32} : upd (μ.1 o) k x = (mI μ o k x).1 o := by
  funext b
  simp [upd, mI]
theorem upd_mJ {o k : Nat} {x : Int64} : vp_updL (μ.2 o) k x = (mJ μ o k x).2 o := by
  funext b
  simp [vp_updL, mJ]
theorem x_iald {a : Nat} {i : Int32} (ha : kd a = 20) (hi : vp_in i (ln a)) (hd : decode M.2.1 pc = .ok (.iaload, 1)) (h : Ex E M Q (pc + 1) ls (.int (μ.1 a i.toNatClampNeg) :: st) μ) : Ex E M Q pc ls (.int i :: .ref a :: st) μ := by
  intro p e s m args below meth c hc H locs lr hl hP hS
  exact va_iald hc.1 hc.2.1 hc.2.2.2.2.2.2.2.1 hP a 0 (by rw [wd_get (kd_lt20 (by omega)), ce_int ha]) rfl hi hd (h p e s m args below meth c hc H locs lr hl hP hS)
theorem x_zald {a : Nat} {i : Int32} (ha : kd a = 22) (hi : vp_in i (ln a)) (hd : decode M.2.1 pc = .ok (.baload, 1)) (h : Ex E M Q (pc + 1) ls (.int (μ.1 a i.toNatClampNeg) :: st) μ) : Ex E M Q pc ls (.int i :: .ref a :: st) μ := by
  intro p e s m args below meth c hc H locs lr hl hP hS
  exact va_zald hc.1 hc.2.1 hc.2.2.2.2.2.2.2.1 hP a 2 (by rw [wd_get (kd_lt20 (by omega)), ce_bool ha]) rfl hi hd (h p e s m args below meth c hc H locs lr hl hP hS)
theorem x_lald {a : Nat} {i : Int32} (ha : kd a = 21) (hi : vp_in i (ln a)) (hd : decode M.2.1 pc = .ok (.laload, 1)) (h : Ex E M Q (pc + 1) ls (.long (μ.2 a i.toNatClampNeg) :: st) μ) : Ex E M Q pc ls (.int i :: .ref a :: st) μ := by
  intro p e s m args below meth c hc H locs lr hl hP hS
  exact va_lald hc.1 hc.2.1 hc.2.2.2.2.2.2.2.1 hP a 1 (by rw [wd_get (kd_lt20 (by omega)), ce_long ha]) rfl hi hd (h p e s m args below meth c hc H locs lr hl hP hS)
theorem x_aald {a t : Nat} {ty : FieldType} {i : Int32} {b : Nat} (ha : kd a = 23 + t) (ht : (tys E)[3 + t]? = some (E.2.2.1 (23 + t), ty)) (hty : ty.isReference = true) (hi : vp_in i (ln a)) (hb : rf a i.toNatClampNeg = b) (hd : decode M.2.1 pc = .ok (.aaload, 1)) (h : Ex E M Q (pc + 1) ls (.ref b :: st) μ) : Ex E M Q pc ls (.int i :: .ref a :: st) μ := by
  intro p e s m args below meth c hc H locs lr hl hP hS
  subst hb
  have hlt : i.toNatClampNeg < ln a := Nat.not_le.mp fun q => hi (Or.inr q)
  have hn : a < NC := kd_lt (fun q => by
    rw [ha] at q
    have q1 : t = 76 := by omega
    subst q1
    cases ht)
  have hcell := hP a _ (by rw [wd_get hn, ce_ref ha (by omega)])
  exact W.aald (v := .ref (E.2.2.2 + rf a i.toNatClampNeg)) (ty := ty) hc.1 hc.2.1 hcell ((hc.2.2.2.2.2.2.2.1.2 (3 + t) _ ht).1 (ln a) (fun j => va_rf (some (E.2.2.2 + rf a j)))) hty (fun q => by cases q) (by show ¬ (i < 0 ∨ (arrV _ _ _).slots.size ≤ _); rw [arrV_size]; exact hi) (by show (arrV _ _ _).slots[_]? = _; rw [arrV_read _ _ hlt]; rfl) rfl rfl hd (h p e s m args below meth c hc H locs lr hl hP hS)
theorem x_iast {a : Nat} {i x : Int32} (ha : kd a = 20) (hi : vp_in i (ln a)) (hd : decode M.2.1 pc = .ok (.iastore, 1)) (h : Ex E M Q (pc + 1) ls st (mI μ a i.toNatClampNeg x)) : Ex E M Q pc ls (.int x :: .int i :: .ref a :: st) μ := by
  intro p e s m args below meth c hc H locs lr hl hP hS
  have hn : a < NC := kd_lt20 (by omega)
  refine va_iast hc.1 hc.2.1 hc.2.2.2.2.2.2.2.1 hP (wd_D E μ) hS a 0 (by rw [wd_get hn, ce_int ha]) rfl hi hd (fun H1 l1 hP1 hD1 hS1 => ?_)
  rw [wd_set (ν := mI μ a i.toNatClampNeg x) hn (by rw [ce_int ha, upd_mI]) (fun _ q => ce_mI q)] at hP1
  exact h p e s m args below meth c hc H1 l1 lr hl hP1 hS1
theorem x_zast {a : Nat} {i x y : Int32} (ha : kd a = 22) (hi : vp_in i (ln a)) (hy : vp_nar .boolean x = y) (hd : decode M.2.1 pc = .ok (.bastore, 1)) (h : Ex E M Q (pc + 1) ls st (mI μ a i.toNatClampNeg y)) : Ex E M Q pc ls (.int x :: .int i :: .ref a :: st) μ := by
  intro p e s m args below meth c hc H locs lr hl hP hS
  have hn : a < NC := kd_lt20 (by omega)
  subst hy
  refine va_zast hc.1 hc.2.1 hc.2.2.2.2.2.2.2.1 hP (wd_D E μ) hS a 2 (by rw [wd_get hn, ce_bool ha]) rfl hi hd (fun H1 l1 hP1 hD1 hS1 => ?_)
  rw [wd_set (ν := mI μ a i.toNatClampNeg (vp_nar .boolean x)) hn (by rw [ce_bool ha, upd_mI]) (fun _ q => ce_mI q)] at hP1
  exact h p e s m args below meth c hc H1 l1 lr hl hP1 hS1
theorem x_last {a : Nat} {i : Int32} {x : Int64} (ha : kd a = 21) (hi : vp_in i (ln a)) (hd : decode M.2.1 pc = .ok (.lastore, 1)) (h : Ex E M Q (pc + 1) ls st (mJ μ a i.toNatClampNeg x)) : Ex E M Q pc ls (.long x :: .int i :: .ref a :: st) μ := by
  intro p e s m args below meth c hc H locs lr hl hP hS
  have hn : a < NC := kd_lt20 (by omega)
  refine va_last hc.1 hc.2.1 hc.2.2.2.2.2.2.2.1 hP (wd_D E μ) hS a 1 (by rw [wd_get hn, ce_long ha]) rfl hi hd (fun H1 l1 hP1 hD1 hS1 => ?_)
  rw [wd_set (ν := mJ μ a i.toNatClampNeg x) hn (by rw [ce_long ha, upd_mJ]) (fun _ q => ce_mJ q)] at hP1
  exact h p e s m args below meth c hc H1 l1 lr hl hP1 hS1
theorem x_alen {a N : Nat} {v : Int32} (ha : kd a = 20 ∨ kd a = 21) (hN : ln a = N) (hv : Int32.ofNat N = v) (hd : decode M.2.1 pc = .ok (.arraylength, 1)) (h : Ex E M Q (pc + 1) ls (.int v :: st) μ) : Ex E M Q pc ls (.ref a :: st) μ := by
  intro p e s m args below meth c hc H locs lr hl hP hS
  subst hN
  rcases ha with ha | ha
  · exact va_alen hc.1 hc.2.1 hc.2.2.2.2.2.2.2.1 hP a 0 (by rw [wd_get (kd_lt20 (by omega)), ce_int ha]) rfl hv hd (h p e s m args below meth c hc H locs lr hl hP hS)
  · exact va_alen hc.1 hc.2.1 hc.2.2.2.2.2.2.2.1 hP a 1 (by rw [wd_get (kd_lt20 (by omega)), ce_long ha]) rfl hv hd (h p e s m args below meth c hc H locs lr hl hP hS)
-- fields
theorem ce_obj {o ci : Nat} (h : kd o = ci) (h1 : ci < 20) : ce E μ o = .inr (ci, (List.range (ln o)).map (fun k => sh E.2.2.2 (fp μ o k))) := by
  subst h
  unfold ce
  rw [if_pos h1]
theorem x_get {o ci k N index : Nat} {C : String} {T : u_T} {v : Value} (ho : kd o = ci) (h1 : ci < 20) (hc0 : classes[ci]? = some (C, T, N)) (hin : ∀ w ∈ u_ws C T N, w ∈ tbG) (hk : k < N) (hkl : k < ln o) (hlink : Cond.fieldLink M.1.cls index (T k).1 (T k).2.1 (T k).2.2.1 ∈ tbG) (hv : fp μ o k = v) (hd : decode M.2.1 pc = .ok (.getfield index, 3)) (h : Ex E M Q (pc + 3) ls (v :: st) μ) : Ex E M Q pc ls (.ref o :: st) μ := by
  intro p e s m args below meth c hc H locs lr hl hP hS
  subst hv
  exact va_get hc.1 hc.2.1 hc.2.2.2.2.2.1 hin hc.2.2.2.2.1 hc.2.2.2.2.2.2.2.1 hP o (by rw [wd_get (kd_lt20 (by omega)), ce_obj ho h1]) hc0 k hk (hc.2.2.2.2.2.1 _ hlink) (fun _ h9 => h9) (by rw [List.getElem?_map, List.getElem?_range hkl]; rfl) hd (h p e s m args below meth c hc H locs lr hl hP hS)
theorem fp_mI {o k : Nat} {x : Int32} (h : ft (kd o) k ≠ 1 ∧ ft (kd o) k ≠ 2) (j : Nat) : fp (mI μ o k x) o j = if j = k then .int x else fp μ o j := by
  unfold fp
  by_cases e : j = k
  · subst e
    rw [if_neg h.1, if_neg h.2, if_pos rfl]
    simp [mI]
  · rw [if_neg e]
    simp [mI, e]
theorem fp_mJ {o k : Nat} {x : Int64} (h : ft (kd o) k = 2) (j : Nat) : fp (mJ μ o k x) o j = if j = k then .long x else fp μ o j := by
  unfold fp
  by_cases e : j = k
  · subst e
    rw [if_neg (by omega), if_pos h, if_pos rfl]
    simp [mJ]
  · rw [if_neg e]
    simp [mJ, e]
theorem set_range {n k : Nat} {f g : Nat → Value} {v : Value} (hk : k < n) (h : ∀ j, g j = if j = k then v else f j) : ((List.range n).map f).set k v = (List.range n).map g := by
  apply List.ext_getElem?
  intro i
  rw [List.getElem?_set]
  by_cases e : k = i
  · subst e
    rw [if_pos rfl, if_pos (by simpa using hk), List.getElem?_map, List.getElem?_range hk]
    show some v = some (g k)
    rw [h, if_pos rfl]
  · rw [if_neg e, List.getElem?_map, List.getElem?_map]
    by_cases l : i < n
    · rw [List.getElem?_range l]
      show some (f i) = some (g i)
      rw [h, if_neg (fun q => e q.symm)]
    · rw [List.getElem?_eq_none (by simpa using l)]
      rfl
theorem x_putI {o ci k N index : Nat} {C : String} {T : u_T} {ty : FieldType} {x : Int32} (ty0 : Nat → FieldType) (hty : ∀ k, k < N → parseFieldDescriptor (T k).2.2.1 = some (ty0 k)) (hnm : ∀ a, a < N → ∀ b, b < N → a ≠ b → (T a).2.1 ≠ (T b).2.1) (ho : kd o = ci) (h1 : ci < 20) (hc0 : classes[ci]? = some (C, T, N)) (hin : ∀ w ∈ u_ws C T N, w ∈ tbG) (hk : k < N) (hkl : k < ln o) (hlink : Cond.fieldLink M.1.cls index (T k).1 (T k).2.1 (T k).2.2.1 ∈ tbG) (hfin : (T k).2.2.2 = false) (hf : ft ci k ≠ 1 ∧ ft ci k ≠ 2) (hpd : parseFieldDescriptor (T k).2.2.1 = some ty) (hn : narrow ty (.int x) = .int x) (hfit : fits ty (.int x) = true) (hd : decode M.2.1 pc = .ok (.putfield index, 3)) (h : Ex E M Q (pc + 3) ls st (mI μ o k x)) : Ex E M Q pc ls (.int x :: .ref o :: st) μ := by
  intro p e s m args below meth c hc H locs lr hl hP hS
  have hN : o < NC := kd_lt20 (by omega)
  refine va_put hc.1 hc.2.1 hc.2.2.2.2.2.1 hin ty0 hty hnm hc.2.2.2.2.1 hc.2.2.2.2.2.2.2.1 hP (wd_D E μ) hS o (by rw [wd_get hN, ce_obj ho h1]) hc0 k hk (hc.2.2.2.2.2.1 _ hlink) (fun _ h9 => h9) hfin hpd hn hfit (by simpa using hkl) hd (fun H1 l1 hP1 hD1 hS1 => ?_)
  rw [set_range (g := fun j => sh E.2.2.2 (fp (mI μ o k x) o j)) hkl (fun j => by
    rw [fp_mI (by rw [ho]; exact hf)]
    by_cases e : j = k
    · rw [if_pos e, if_pos e]
    · rw [if_neg e, if_neg e]), wd_set (ν := mI μ o k x) hN (by rw [ce_obj ho h1]) (fun _ q => ce_mI q)] at hP1
  exact h p e s m args below meth c hc H1 l1 lr hl hP1 hS1
theorem x_putJ {o ci k N index : Nat} {C : String} {T : u_T} {ty : FieldType} {x : Int64} (ty0 : Nat → FieldType) (hty : ∀ k, k < N → parseFieldDescriptor (T k).2.2.1 = some (ty0 k)) (hnm : ∀ a, a < N → ∀ b, b < N → a ≠ b → (T a).2.1 ≠ (T b).2.1) (ho : kd o = ci) (h1 : ci < 20) (hc0 : classes[ci]? = some (C, T, N)) (hin : ∀ w ∈ u_ws C T N, w ∈ tbG) (hk : k < N) (hkl : k < ln o) (hlink : Cond.fieldLink M.1.cls index (T k).1 (T k).2.1 (T k).2.2.1 ∈ tbG) (hfin : (T k).2.2.2 = false) (hf : ft ci k = 2) (hpd : parseFieldDescriptor (T k).2.2.1 = some ty) (hn : narrow ty (.long x) = .long x) (hfit : fits ty (.long x) = true) (hd : decode M.2.1 pc = .ok (.putfield index, 3)) (h : Ex E M Q (pc + 3) ls st (mJ μ o k x)) : Ex E M Q pc ls (.long x :: .ref o :: st) μ := by
  intro p e s m args below meth c hc H locs lr hl hP hS
  have hN : o < NC := kd_lt20 (by omega)
  refine va_put hc.1 hc.2.1 hc.2.2.2.2.2.1 hin ty0 hty hnm hc.2.2.2.2.1 hc.2.2.2.2.2.2.2.1 hP (wd_D E μ) hS o (by rw [wd_get hN, ce_obj ho h1]) hc0 k hk (hc.2.2.2.2.2.1 _ hlink) (fun _ h9 => h9) hfin hpd hn hfit (by simpa using hkl) hd (fun H1 l1 hP1 hD1 hS1 => ?_)
  rw [set_range (g := fun j => sh E.2.2.2 (fp (mJ μ o k x) o j)) hkl (fun j => by
    rw [fp_mJ (by rw [ho]; exact hf)]
    by_cases e : j = k
    · rw [if_pos e, if_pos e]
    · rw [if_neg e, if_neg e]), wd_set (ν := mJ μ o k x) hN (by rw [ce_obj ho h1]) (fun _ q => ce_mJ q)] at hP1
  exact h p e s m args below meth c hc H1 l1 lr hl hP1 hS1
-- ends
theorem x_iret {x : Int32} {ty : FieldType} (hr : M.2.2.2.1 = some ty) (hn : narrow ty (.int x) = .int x) (hd : decode M.2.1 pc = .ok (.ireturn, 1)) (h : Q (some (.int x)) μ) : Ex E M Q pc ls [.int x] μ := by
  intro p e s m args below meth c hc H locs lr hl hP hS
  exact W.zret hc.1 hc.2.1 (by rw [hc.2.2.1, hr]) hn (fun t ht hW => ⟨⟨some (.int x), μ, rfl, h, by rw [ht]; exact hP⟩, hS.F ht⟩) hS.2.2 hd hc.2.2.2.2.2.2.1
theorem x_lret {x : Int64} (hr : M.2.2.2.1 = some .long) (hd : decode M.2.1 pc = .ok (.lreturn, 1)) (h : Q (some (.long x)) μ) : Ex E M Q pc ls [.long x] μ := by
  intro p e s m args below meth c hc H locs lr hl hP hS
  exact W.lret hc.1 hc.2.1 (by rw [hc.2.2.1, hr]) (fun t ht hW => ⟨⟨some (.long x), μ, rfl, h, by rw [ht]; exact hP⟩, hS.F ht⟩) hS.2.2 hd hc.2.2.2.2.2.2.1
theorem x_vret (hr : M.2.2.2.1 = none) (hd : decode M.2.1 pc = .ok (.return_, 1)) (h : Q none μ) : Ex E M Q pc ls [] μ := by
  intro p e s m args below meth c hc H locs lr hl hP hS
  exact W.vret hc.1 hc.2.1 (by rw [hc.2.2.1, hr]) (fun t ht hW => ⟨⟨none, μ, rfl, h, by rw [ht]; exact hP⟩, hS.F ht⟩) hS.2.2 hd hc.2.2.2.2.2.2.1
theorem x_aret {a : Nat} {rt : FieldType} (hr : M.2.2.2.1 = some rt) (hrt : (∃ n, rt = .object n) ∨ ∃ t, rt = .array t) (hd : decode M.2.1 pc = .ok (.areturn, 1)) (h : Q (some (.ref a)) μ) : Ex E M Q pc ls [.ref a] μ := by
  intro p e s m args below meth c hc H locs lr hl hP hS
  exact W.aret hc.1 hc.2.1 (by rw [hc.2.2.1, hr]) hrt (Or.inr ⟨_, rfl⟩) (fun t ht hW => ⟨⟨some (.ref a), μ, rfl, h, by rw [ht]; exact hP⟩, hS.F ht⟩) hS.2.2 hd hc.2.2.2.2.2.2.1
end XR
