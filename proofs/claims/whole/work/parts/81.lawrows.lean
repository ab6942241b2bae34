section LAWROWS
variable {E : EV} {b L : Nat} {xs : Nat → Int32} {cs sl pc idx : Nat} {i : Int32} {st : List Value} {μ : Mem} {M' : MT}
/-- from this place of the law, at this place of the script, with this memory, it comes to its end with 1 -/
def Lx (E : EV) (b L : Nat) (xs : Nat → Int32) (cs sl : Nat) (pc : Nat) (i : Int32) (st : List Value) (μ : Mem) : Prop :=
  ∀ (p : Program) (e : Env) (s : State) (m : MethodId) (below : List Frame) (meth : Method) (c : Code), lw_At p s m meth c b L xs → va_K E.2.1 classes (tys E) s → nw s → E.2.2.2 = s.heap.size →
    ∀ (H : Heap) (locs : List Loc) (lr : Array Slot), lv_has lr 4 [(0, .ref b), (1, .ref (E.2.2.2 + 0)), (2, .ref (E.2.2.2 + 123)), (3, .int i)] → va_P E.2.1 classes (wd E μ) H → va_S (Fz E) s.heap H locs →
      W p E.1 e room_1 s m #[Value.ref b] below meth c H locs cs sl (lw_Z below #[Value.ref b] s) (F0 m pc lr (st.map (sh E.2.2.2)))
theorem L_al1 (hd : decode code pc = .ok (.aload_n 1, 1)) (k : Lx E b L xs cs sl (pc + 1) i (.ref 0 :: st) μ) : Lx E b L xs cs sl pc i st μ := by
  intro p e s m below meth c hA hK hN hz H locs lr hl hP hS
  exact lv_aload_n hA.1 hA.2.1 hd rfl (lv_at hl 1 rfl) (k p e s m below meth c hA hK hN hz H locs lr hl hP hS)
theorem L_al2 (hd : decode code pc = .ok (.aload_n 2, 1)) (k : Lx E b L xs cs sl (pc + 1) i (.ref 123 :: st) μ) : Lx E b L xs cs sl pc i st μ := by
  intro p e s m below meth c hA hK hN hz H locs lr hl hP hS
  exact lv_aload_n hA.1 hA.2.1 hd rfl (lv_at hl 2 rfl) (k p e s m below meth c hA hK hN hz H locs lr hl hP hS)
theorem L_arg {j : Int} {v : Int32} (hj : Int32.ofInt j = v) (hin : vp_in (i + v) L) (h0 : decode code pc = .ok (.aload_n 0, 1)) (h1 : decode code (pc + 1) = .ok (.iload_n 3, 1)) (h2 : decode code (pc + 1 + 1) = .ok (.iconst j, 1)) (h3 : decode code (pc + 1 + 1 + 1) = .ok (.iadd, 1)) (h4 : decode code (pc + 1 + 1 + 1 + 1) = .ok (.iaload, 1))
    (k : Lx E b L xs cs sl (pc + 5) i (.int (xs (i + v).toNatClampNeg) :: st) μ) : Lx E b L xs cs sl pc i st μ := by
  intro p e s m below meth c hA hK hN hz H locs lr hl hP hS
  have hbA : ¬ Fz E b := by
    show ¬ E.2.2.2 ≤ b
    have := hA.2.2.2.2.2.2.2.1
    omega
  refine lv_aload_n hA.1 hA.2.1 h0 rfl (lv_at hl 0 rfl) ?_
  refine lv_iload_n hA.1 hA.2.1 h1 rfl (lv_at hl 3 rfl) ?_
  refine lv_iconst hA.1 hA.2.1 h2 hj ?_
  refine lv_iadd hA.1 hA.2.1 h3 ?_
  refine va_sld hA.1 hA.2.1 hA.2.2.2.2.2.2.1 hA.2.2.2.2.2.2.2.1 hbA hS hin h4 ?_
  exact k p e s m below meth c hA hK hN hz H locs lr hl hP hS
theorem L_hts {p : Program} {s : State} {m : MethodId} {meth : Method} {c : Code} (hA : lw_At p s m meth c b L xs) : ∀ w ∈ tbG, w.before #[Value.ref b] s = true := fun w hw => hA.2.2.2.2.2.1 w (List.mem_filter.mp hw).1
theorem L_callV {as : List Value} {o ci : Nat} (ok : okV RL idx M') (hn : (parseMethodDescriptor M'.1.desc).map (fun d => d.parameters.length) = some as.length) (hR : M'.2.2.2.2.1 + 1 ≤ 12 ∧ 8 + (M'.2.2.1 + 11) + M'.2.2.2.2.2 ≤ 474) (ho : kd o = ci) (h1 : ci < 20) (hcl : (classes[ci]?).map (fun q => q.1) = some M'.1.cls) (hst : (st.map fun v => v.category).sum ≤ 8) (hcs : cs ≤ 600000) (hsl : sl ≤ 7302250) (hd : decode code pc = .ok (.invokevirtual idx, 3))
    (h : Sp E M' (.ref o :: as) μ (fun v ν => Lx E b L xs cs sl (pc + 3) i (v.toList ++ st) ν)) : Lx E b L xs cs sl pc i (as.reverse ++ .ref o :: st) μ := by
  intro p e s m below meth c hA hK hN hz H locs lr hl hP hS
  have hts := L_hts hA
  obtain ⟨q, hq, hqc⟩ := Option.map_eq_some_iff.mp hcl
  have hno : o < NC := kd_lt20 (by omega)
  have hrec := va_recv (q0 := o) hK hP hq (by rw [wd_get hno, ce_obj ho h1])
  rw [hqc] at hrec
  have hml : c.maxLocals = 4 := hA.2.2.2.1
  refine w_call (va_runV (As := as.map (sh E.2.2.2)) (rest := st.map (sh E.2.2.2)) (b := E.2.2.2 + o) ⟨hA.1, hA.2.1, hml, hA.2.2.2.2.1, hts⟩ h (cwV as.length hts ok.1 rfl rfl rfl ⟨rfl, ok.2.1, ok.2.2, hn⟩ hR) ⟨pc_blind (.ref o :: as), hrec, pc_pre (.ref o :: as) hK hN hP⟩ rfl (List.length_map _) hl.1 (by simp [sh]) (lv_room (by rw [cat_sh]; exact hst)) hd ⟨hcs, hsl⟩) hS (fun v ν H1 l1 hQ hP1 hS1 => ?_)
  have h9 := hQ p e s m below meth c hA hK hN hz H1 l1 lr hl hP1 hS1
  rw [List.map_append] at h9
  cases v with
  | none => exact h9
  | some v => exact h9
theorem L_eqI {x : Int32} {off : Int} {tgt : Nat} (ht : (pc : Int) + off = (tgt : Int)) (hd : decode code pc = .ok (.if_icmp .eq off, 3)) (k : Lx E b L xs cs sl tgt i [] μ) : Lx E b L xs cs sl pc i [.int x, .int x] μ := by
  intro p e s m below meth c hA hK hN hz H locs lr hl hP hS
  exact lv_icmp_eq hA.1 hA.2.1 hd ht (fun _ => k p e s m below meth c hA hK hN hz H locs lr hl hP hS) (fun z => absurd rfl z)
theorem cmp_self (x : Int64) : lg_cmp x x = 0 := by
  unfold lg_cmp
  rw [if_neg (by rw [gt_iff_lt, Int64.lt_iff_toInt_lt]; omega), if_pos rfl]
theorem L_eqJ {x : Int64} {off : Int} {tgt : Nat} (ht : ((pc + 1 : Nat) : Int) + off = (tgt : Int)) (hd0 : decode code pc = .ok (.lcmp, 1)) (hd : decode code (pc + 1) = .ok (.ifCond .eq off, 3)) (k : Lx E b L xs cs sl tgt i [] μ) : Lx E b L xs cs sl pc i [.long x, .long x] μ := by
  intro p e s m below meth c hA hK hN hz H locs lr hl hP hS
  refine W.lcmp hA.1 hA.2.1 hd0 ?_
  exact lv_if_eq hA.1 hA.2.1 hd ht (fun _ => k p e s m below meth c hA hK hN hz H locs lr hl hP hS) (fun z => absurd (cmp_self x) z)
/-- what both sides are between two calls -/
def Inv (μ : Mem) : Prop := (∃ tn tb S, RC μ tn tb S) ∧ RS μ ∧ ∃ s, RLi μ s
theorem Inv.q {ν : Mem} (h : Inv μ) (hf : Fr SQ μ ν) : Inv ν := by
  obtain ⟨⟨tn, tb, S, h1⟩, h2, s, h3⟩ := h
  exact ⟨⟨tn, tb, S, h1.fr hf⟩, h2.frQ hf, s, h3.fr hf⟩
theorem Inv.s {ν : Mem} (h : Inv μ) (hR : RS ν) (hf : Fr SWf μ ν) : Inv ν := by
  obtain ⟨⟨tn, tb, S, h1⟩, h2, s, h3⟩ := h
  refine ⟨⟨tn, tb, S, h1.frS hf (fun o k w => by unfold SWf SS SQ; omega) (by unfold SWf SS SQ; omega)⟩, hR, s, h3.frS hf (by unfold SWf SS SQ; omega) (fun o k _ _ => by unfold SWf SS SQ; omega) (by unfold SWf SS SQ; omega) (fun o k _ _ => by unfold SWf SS SQ; omega)⟩
theorem Inv.l {ν : Mem} (h : Inv μ) (hR : RS ν) (hL : ∃ s, RLi ν s) (hf : Fr (fun o k => SLi o k ∨ SS o k) μ ν) : Inv ν := by
  obtain ⟨⟨tn, tb, S, h1⟩, h2, h3⟩ := h
  refine ⟨⟨tn, tb, S, h1.frS hf (fun o k w => by unfold SLi SS SQ; omega) (by unfold SLi SS SQ; omega)⟩, hR, hL⟩
theorem Inv.t {ν : Mem} (h : Inv μ) (hC : ∃ tn tb S, RC ν tn tb S) (hf : Fr ST μ ν) : Inv ν := by
  obtain ⟨h1, h2, s, h3⟩ := h
  exact ⟨hC, h2.frS hf (by unfold ST; omega) (by unfold ST; omega) (fun o k _ => by unfold ST; omega), s, h3.frS hf (by unfold ST; omega) (fun o k _ _ => by unfold ST; omega) (by unfold ST; omega) (fun o k _ _ => by unfold ST; omega)⟩
theorem Inv.sh {ν : Mem} (h : Inv μ) (hC : ∃ tn tb S, RC ν tn tb S) (hf : Fr (fun o k => (o = 1 ∧ k = 3) ∨ (o = 123 ∧ k = 13)) μ ν) : Inv ν := by
  obtain ⟨h1, h2, s, h3⟩ := h
  exact ⟨hC, h2.frS hf (by omega) (by omega) (fun o k _ => by omega), s, h3.frS hf (by omega) (fun o k _ _ => by omega) (by omega) (fun o k _ _ => by omega)⟩
end LAWROWS
