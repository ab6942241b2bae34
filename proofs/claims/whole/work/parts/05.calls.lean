section XC
variable {E : EV} {M M' : MT} {Q Q' : Po} {pc idx : Nat} {ls : List (Nat × Value)} {st : List Value} {μ : Mem}
theorem w_call {p : Program} {e : Env} {R : Room} {s : State} {m : MethodId} {args a : Array Value} {below : List Frame} {meth : Method} {c : Code} {H : Heap} {locs : List Loc} {cells slots : Nat} {Qw : State → Prop} {lr : Array Slot} {st0 rest : List Value}
    (hr : va_Run p E.1 e R s m args below meth c H locs cells slots 0 0 (F0 m pc lr st0) rest (Qd E Q' a) (Fz E)) (hS : va_S (Fz E) s.heap H locs)
    (kk : ∀ (v : Option Value) (ν : Mem) (H1 : Heap) (locs1 : List Loc), Q' v ν → va_P E.2.1 classes (wd E ν) H1 → va_S (Fz E) s.heap H1 locs1 → W p E.1 e R s m args below meth c H1 locs1 cells slots Qw (F0 m (pc + 3) lr ((v.map (sh E.2.2.2)).toList ++ rest))) :
    W p E.1 e R s m args below meth c H locs cells slots Qw (F0 m pc lr st0) := by
  intro T hT X
  obtain ⟨v, st₀, t, T', L, h0, X', hL, e1, e2, ⟨⟨v1, ν, hv, hq, hP1⟩, hz, hk⟩, st⟩ := hr T hT X
  cases hv
  rw [h0] at hz hk
  obtain ⟨t2, a1, b1⟩ := kk v1 ν T'.heap (locs ++ L) hq (by rw [e1]; exact hP1)
    ⟨Nat.le_trans hS.1 (by rw [e1]; exact hz), fun q h1 h2 => by rw [e1, hk q (Nat.lt_of_lt_of_le h1 hS.1) h2]; exact hS.2.1 q h1 h2, fun q hq => by
      rcases List.mem_append.mp hq with h | h
      · exact hS.2.2 q h
      · exact hL q h⟩ T' rfl X'
  exact ⟨t2, st t2 a1, b1⟩
theorem pc_blind (as : List Value) : FrameBlind (va_Pc (as.map (sh E.2.2.2)) (fun U => va_P E.2.1 classes (wd E μ) U.heap ∧ va_K E.2.1 classes (tys E) U ∧ nw U)) := by
  intro a U g mk q
  obtain ⟨q0, qP, qK, qN⟩ := q
  exact ⟨q0, qP, va_K.moved (u := U) (U := U.calling g mk a) (Vm.Alike.refl U.vm) qK, nw_same (s := U) (U := U.calling g mk a) rfl qN⟩
theorem pc_pre {s : State} {H : Heap} (as : List Value) (hK : va_K E.2.1 classes (tys E) s) (hN : nw s) (hP : va_P E.2.1 classes (wd E μ) H) : ∀ U : State, U.heap = H → s.WarmedH U.vm → va_Pc (as.map (sh E.2.2.2)) (fun U => va_P E.2.1 classes (wd E μ) U.heap ∧ va_K E.2.1 classes (tys E) U ∧ nw U) (as.map (sh E.2.2.2)).toArray U :=
  fun U hU hW => ⟨rfl, by rw [hU]; exact hP, va_K.moved hW.alike hK, nw_warm hW hN⟩
theorem cat_sh (sz : Nat) (st : List Value) : ((st.map (sh sz)).map fun v => v.category).sum = (st.map fun v => v.category).sum := by
  induction st with
  | nil => rfl
  | cons v t ih =>
    show (sh sz v).category + ((t.map (sh sz)).map fun v => v.category).sum = v.category + (t.map fun v => v.category).sum
    rw [ih, sh_cat]
/-- what a call's own words are -/
def okV (own : String) (idx : Nat) (M' : MT) : Prop := GoodIn tbG (wsV own idx M'.1.cls M'.1 (mws M')) ∧ M'.1.cls ≠ "java/lang/invoke/MethodHandle" ∧ M'.1.cls ≠ "java/lang/invoke/VarHandle"
def okS (own : String) (idx : Nat) (M' : MT) : Prop := Cond.code M'.1 M'.2.1 M'.2.2.1 M'.2.2.2.1 ∈ tbG ∧ Cond.methodLink own idx M'.1 ∈ tbG ∧ Cond.static M'.1 ∈ tbG ∧ Cond.initialized M'.1.cls ∈ tbG ∧ M'.1.cls ≠ "java/lang/invoke/MethodHandle" ∧ M'.1.cls ≠ "java/lang/invoke/VarHandle"
theorem okV.of {own : String} (h0 : Cond.code M'.1 M'.2.1 M'.2.2.1 M'.2.2.2.1 ∈ tbG) (h1 : Cond.methodLink own idx M'.1 ∈ tbG) (h2 : Cond.instanceMethod M'.1 ∈ tbG) (h3 : Cond.selects M'.1.cls M'.1 M'.1 ∈ tbG) (h4 : Cond.initialized M'.1.cls ∈ tbG) (h5 : M'.1.cls ≠ "java/lang/invoke/MethodHandle") (h6 : M'.1.cls ≠ "java/lang/invoke/VarHandle") : okV own idx M' := by
  refine ⟨fun w hw => ?_, h5, h6⟩
  unfold wsV at hw
  rcases List.mem_append.mp hw with q | q
  · rcases List.mem_cons.mp q with rfl | q
    · exact ⟨h1, tb_good h1⟩
    rcases List.mem_cons.mp q with rfl | q
    · exact ⟨h2, tb_good h2⟩
    rcases List.mem_cons.mp q with rfl | q
    · exact ⟨h3, tb_good h3⟩
    rcases List.mem_cons.mp q with rfl | q
    · exact ⟨h4, tb_good h4⟩
    · cases q
  · exact mws_good h0 w q
theorem x_callV {as : List Value} {o ci : Nat} {own : String} (hw : M.1.cls = own) (ok : okV own idx M') (hn : (parseMethodDescriptor M'.1.desc).map (fun d => d.parameters.length) = some as.length) (hR : M'.2.2.2.2.1 + 1 ≤ M.2.2.2.2.1 ∧ 8 + (M'.2.2.1 + 11) + M'.2.2.2.2.2 ≤ M.2.2.2.2.2) (ho : kd o = ci) (h1 : ci < 20) (hcl : (classes[ci]?).map (fun q => q.1) = some M'.1.cls) (hst : (st.map fun v => v.category).sum ≤ 8) (hd : decode M.2.1 pc = .ok (.invokevirtual idx, 3))
    (h : Sp E M' (.ref o :: as) μ (fun v ν => Ex E M Q (pc + 3) ls (v.toList ++ st) ν)) : Ex E M Q pc ls (as.reverse ++ .ref o :: st) μ := by
  intro p e s m args below meth c hc H locs lr hl hP hS
  subst hw
  obtain ⟨hx, hb, hr, hml, hown, hts, hlk, hK, hN⟩ := hc
  obtain ⟨q, hq, hqc⟩ := Option.map_eq_some_iff.mp hcl
  have hno : o < NC := kd_lt20 (by omega)
  have hrec := va_recv (q0 := o) hK hP hq (by rw [wd_get hno, ce_obj ho h1])
  rw [hqc] at hrec
  refine w_call (va_runV (As := as.map (sh E.2.2.2)) (rest := st.map (sh E.2.2.2)) (b := E.2.2.2 + o) ⟨hx, hb, hml, hown, hts⟩ h (cwV as.length hts ok.1 rfl rfl rfl ⟨rfl, ok.2.1, ok.2.2, hn⟩ hR) ⟨pc_blind (.ref o :: as), hrec, pc_pre (.ref o :: as) hK hN hP⟩ rfl (List.length_map _) hl.1 (by simp [sh]) (lv_room (by rw [cat_sh]; exact hst)) hd ⟨Nat.le_refl _, Nat.le_refl _⟩) hS (fun v ν H1 l1 hQ hP1 hS1 => ?_)
  have h9 := hQ p e s m args below meth c ⟨hx, hb, hr, hml, hown, hts, hlk, hK, hN⟩ H1 l1 lr hl hP1 hS1
  rw [List.map_append] at h9
  cases v with
  | none => exact h9
  | some v => exact h9
theorem x_callS {as : List Value} {own : String} (hw : M.1.cls = own) (ok : okS own idx M') (hn : (parseMethodDescriptor M'.1.desc).map (fun d => d.parameters.length) = some as.length) (hR : M'.2.2.2.2.1 + 1 ≤ M.2.2.2.2.1 ∧ 8 + (M'.2.2.1 + 11) + M'.2.2.2.2.2 ≤ M.2.2.2.2.2) (hst : (st.map fun v => v.category).sum ≤ 8) (hd : decode M.2.1 pc = .ok (.invokestatic idx, 3))
    (h : Sp E M' as μ (fun v ν => Ex E M Q (pc + 3) ls (v.toList ++ st) ν)) : Ex E M Q pc ls (as.reverse ++ st) μ := by
  intro p e s m args below meth c hc H locs lr hl hP hS
  subst hw
  obtain ⟨hx, hb, hr, hml, hown, hts, hlk, hK, hN⟩ := hc
  refine w_call (va_runS (As := as.map (sh E.2.2.2)) (rest := st.map (sh E.2.2.2)) ⟨hx, hb, hml, hown, hts⟩ h ⟨callB_of as.length hts (mws_good ok.1) rfl rfl rfl (hts _ ok.2.2.2.1) (hts _ ok.2.1) ⟨ok.2.2.2.2.1, ok.2.2.2.2.2, hn⟩ hR, hts _ ok.2.2.1⟩ ⟨pc_blind as, pc_pre as hK hN hP⟩ rfl (List.length_map _) hl.1 (by simp) (lv_room (by rw [cat_sh]; exact hst)) hd ⟨Nat.le_refl _, Nat.le_refl _⟩) hS (fun v ν H1 l1 hQ hP1 hS1 => ?_)
  have h9 := hQ p e s m args below meth c ⟨hx, hb, hr, hml, hown, hts, hlk, hK, hN⟩ H1 l1 lr hl hP1 hS1
  rw [List.map_append] at h9
  cases v with
  | none => exact h9
  | some v => exact h9
theorem x_callSN {as : List Value} {own host : String} (hw : M.1.cls = own) (hnw : ∀ s, nw s → va_Nw (.methodLinkNest own idx M'.1 host) s) (h0 : Cond.code M'.1 M'.2.1 M'.2.2.1 M'.2.2.2.1 ∈ tbG) (h1 : Cond.static M'.1 ∈ tbG) (h2 : Cond.initialized M'.1.cls ∈ tbG) (h3 : M'.1.cls ≠ "java/lang/invoke/MethodHandle") (h4 : M'.1.cls ≠ "java/lang/invoke/VarHandle") (hn : (parseMethodDescriptor M'.1.desc).map (fun d => d.parameters.length) = some as.length) (hR : M'.2.2.2.2.1 + 1 ≤ M.2.2.2.2.1 ∧ 8 + (M'.2.2.1 + 11) + M'.2.2.2.2.2 ≤ M.2.2.2.2.2) (hst : (st.map fun v => v.category).sum ≤ 8) (hd : decode M.2.1 pc = .ok (.invokestatic idx, 3))
    (h : Sp E M' as μ (fun v ν => Ex E M Q (pc + 3) ls (v.toList ++ st) ν)) : Ex E M Q pc ls (as.reverse ++ st) μ := by
  intro p e s m args below meth c hc H locs lr hl hP hS
  subst hw
  obtain ⟨hx, hb, hr, hml, hown, hts, hlk, hK, hN⟩ := hc
  refine w_call (va_runSN (As := as.map (sh E.2.2.2)) (rest := st.map (sh E.2.2.2)) ⟨hx, hb, hml, hown, hts⟩ h ⟨va_cnB as.length hts (mws_good h0) rfl rfl rfl (hnw s hN) (hts _ h2) ⟨h3, h4, hn⟩ hR, hts _ h1, trivial⟩ ⟨pc_blind as, pc_pre as hK hN hP⟩ rfl (List.length_map _) hl.1 (by simp) (lv_room (by rw [cat_sh]; exact hst)) hd ⟨Nat.le_refl _, Nat.le_refl _⟩) hS (fun v ν H1 l1 hQ hP1 hS1 => ?_)
  have h9 := hQ p e s m args below meth c ⟨hx, hb, hr, hml, hown, hts, hlk, hK, hN⟩ H1 l1 lr hl hP1 hS1
  rw [List.map_append] at h9
  cases v with
  | none => exact h9
  | some v => exact h9
/-- System.arraycopy, ints -/
def mCI (μ : Mem) (a i b j n : Nat) : Mem := (fun c k => if c = b ∧ (j ≤ k ∧ k < j + n) then μ.1 a (i + (k - j)) else μ.1 c k, μ.2)
def mCJ (μ : Mem) (a i b j n : Nat) : Mem := (μ.1, fun c k => if c = b ∧ (j ≤ k ∧ k < j + n) then μ.2 a (i + (k - j)) else μ.2 c k)
theorem mCI_eq (a i b j n : Nat) : va_cpy (μ.1 a) (μ.1 b) i j n = (mCI μ a i b j n).1 b := by
  funext k
  by_cases h : j ≤ k ∧ k < j + n
  · rw [pk_cpy_in h.1 h.2]; simp [mCI, h]
  · rw [pk_cpy_out (by omega)]; simp [mCI, h]
theorem mCJ_eq (a i b j n : Nat) : va_cpy (μ.2 a) (μ.2 b) i j n = (mCJ μ a i b j n).2 b := by
  funext k
  by_cases h : j ≤ k ∧ k < j + n
  · rw [pk_cpy_in h.1 h.2]; simp [mCJ, h]
  · rw [pk_cpy_out (by omega)]; simp [mCJ, h]
theorem mCI_ne {a i b j n c : Nat} (h : c ≠ b) : (mCI μ a i b j n).1 c = μ.1 c := by
  funext k
  simp [mCI, h]
theorem mCJ_ne {a i b j n c : Nat} (h : c ≠ b) : (mCJ μ a i b j n).2 c = μ.2 c := by
  funext k
  simp [mCJ, h]
theorem x_copyI {a b : Nat} {sp dp n : Int32} {own : String} (hw : M.1.cls = own) (hlink : Cond.methodLink own idx arraycopyName ∈ tbG) (hnat : Cond.native arraycopyName ∈ tbG) (hstat : Cond.static arraycopyName ∈ tbG) (hini : Cond.initialized "java/lang/System" ∈ tbG) (ha : kd a = 20) (hb0 : kd b = 20) (h1 : ¬ sp < 0) (h2 : ¬ dp < 0) (h3 : ¬ n < 0) (h4 : sp.toNatClampNeg + n.toNatClampNeg ≤ ln a) (h5 : dp.toNatClampNeg + n.toNatClampNeg ≤ ln b) (hfr : 1 ≤ M.2.2.2.2.1) (hlo : (st.map fun v => v.category).sum + (nativeFrameWords "java/lang/System" "arraycopy" 5 + 11) ≤ M.2.2.2.2.2) (hd : decode M.2.1 pc = .ok (.invokestatic idx, 3))
    (h : Ex E M Q (pc + 3) ls st (mCI μ a sp.toNatClampNeg b dp.toNatClampNeg n.toNatClampNeg)) : Ex E M Q pc ls (.int n :: .int dp :: .ref b :: .int sp :: .ref a :: st) μ := by
  intro p e s m args below meth c hc H locs lr hl hP hS
  subst hw
  obtain ⟨hx, hb, hr, hml, hown, hts, hlk, hK, hN⟩ := id hc
  have hnb : b < NC := kd_lt20 (by omega)
  refine va_copyi hx hb (hml.trans hl.1.symm) hown (hts _ hlink) (hts _ hnat) (hts _ hstat) (hts _ hini) hK hP (wd_D E μ) hS a b 0 0 (by rw [wd_get (kd_lt20 (by omega)), ce_int ha]) (by rw [wd_get hnb, ce_int hb0]) rfl rfl rfl h1 h2 h3 h4 h5 (fun _ _ => rfl) hfr (by rw [cat_sh]; exact hlo) hd (fun H1 l1 hP1 hD1 hS1 => ?_)
  rw [wd_set (E := E) (μ := μ) (ν := mCI μ a sp.toNatClampNeg b dp.toNatClampNeg n.toNatClampNeg) hnb (by rw [ce_int hb0, mCI_eq]) (fun _ q => ce_congr (mCI_ne q) rfl)] at hP1
  exact h p e s m args below meth c hc H1 l1 lr hl hP1 hS1
theorem x_copyJ {a b : Nat} {sp dp n : Int32} {own : String} (hw : M.1.cls = own) (hlink : Cond.methodLink own idx arraycopyName ∈ tbG) (hnat : Cond.native arraycopyName ∈ tbG) (hstat : Cond.static arraycopyName ∈ tbG) (hini : Cond.initialized "java/lang/System" ∈ tbG) (ha : kd a = 21) (hb0 : kd b = 21) (h1 : ¬ sp < 0) (h2 : ¬ dp < 0) (h3 : ¬ n < 0) (h4 : sp.toNatClampNeg + n.toNatClampNeg ≤ ln a) (h5 : dp.toNatClampNeg + n.toNatClampNeg ≤ ln b) (hfr : 1 ≤ M.2.2.2.2.1) (hlo : (st.map fun v => v.category).sum + (nativeFrameWords "java/lang/System" "arraycopy" 5 + 11) ≤ M.2.2.2.2.2) (hd : decode M.2.1 pc = .ok (.invokestatic idx, 3))
    (h : Ex E M Q (pc + 3) ls st (mCJ μ a sp.toNatClampNeg b dp.toNatClampNeg n.toNatClampNeg)) : Ex E M Q pc ls (.int n :: .int dp :: .ref b :: .int sp :: .ref a :: st) μ := by
  intro p e s m args below meth c hc H locs lr hl hP hS
  subst hw
  obtain ⟨hx, hb, hr, hml, hown, hts, hlk, hK, hN⟩ := id hc
  have hnb : b < NC := kd_lt20 (by omega)
  refine va_copyl hx hb (hml.trans hl.1.symm) hown (hts _ hlink) (hts _ hnat) (hts _ hstat) (hts _ hini) hK hP (wd_D E μ) hS a b 1 1 (by rw [wd_get (kd_lt20 (by omega)), ce_long ha]) (by rw [wd_get hnb, ce_long hb0]) rfl rfl rfl h1 h2 h3 h4 h5 (fun _ _ => rfl) hfr (by rw [cat_sh]; exact hlo) hd (fun H1 l1 hP1 hD1 hS1 => ?_)
  rw [wd_set (E := E) (μ := μ) (ν := mCJ μ a sp.toNatClampNeg b dp.toNatClampNeg n.toNatClampNeg) hnb (by rw [ce_long hb0, mCJ_eq]) (fun _ q => ce_congr rfl (mCJ_ne q))] at hP1
  exact h p e s m args below meth c hc H1 l1 lr hl hP1 hS1
theorem x_mmax {x y : Int32} {own : String} (hw : M.1.cls = own) (hlink : Cond.methodLink own idx Lib.Math.max.name ∈ tbG) (hstat : Cond.static Lib.Math.max.name ∈ tbG) (hini : Cond.initialized "java/lang/Math" ∈ tbG) (hcode : Cond.code Lib.Math.max.name Lib.Math.max.code 2 (some .int) ∈ tbG) (hfr : 1 ≤ M.2.2.2.2.1) (hlo : (st.map fun v => v.category).sum + 13 ≤ M.2.2.2.2.2) (hd : decode M.2.1 pc = .ok (.invokestatic idx, 3))
    (h : Ex E M Q (pc + 3) ls (.int (if x < y then y else x) :: st) μ) : Ex E M Q pc ls (.int y :: .int x :: st) μ := by
  intro p e s m args below meth c hc H locs lr hl hP hS
  subst hw
  obtain ⟨hx, hb, hr, hml, hown, hts, hlk, hK, hN⟩ := id hc
  exact va_mmax hx hb (hml.trans hl.1.symm) hown (hts _ hlink) (hts _ hstat) (hts _ hini) (hts _ hcode) hfr (by rw [cat_sh]; exact hlo) (Nat.le_refl _) (Nat.le_refl _) hd (h p e s m args below meth c hc H locs lr hl hP hS)
theorem x_mmin {x y : Int32} {own : String} (hw : M.1.cls = own) (hlink : Cond.methodLink own idx Lib.Math.min.name ∈ tbG) (hstat : Cond.static Lib.Math.min.name ∈ tbG) (hini : Cond.initialized "java/lang/Math" ∈ tbG) (hcode : Cond.code Lib.Math.min.name Lib.Math.min.code 2 (some .int) ∈ tbG) (hfr : 1 ≤ M.2.2.2.2.1) (hlo : (st.map fun v => v.category).sum + 13 ≤ M.2.2.2.2.2) (hd : decode M.2.1 pc = .ok (.invokestatic idx, 3))
    (h : Ex E M Q (pc + 3) ls (.int (if y < x then y else x) :: st) μ) : Ex E M Q pc ls (.int y :: .int x :: st) μ := by
  intro p e s m args below meth c hc H locs lr hl hP hS
  subst hw
  obtain ⟨hx, hb, hr, hml, hown, hts, hlk, hK, hN⟩ := id hc
  exact va_mmin hx hb (hml.trans hl.1.symm) hown (hts _ hlink) (hts _ hstat) (hts _ hini) (hts _ hcode) hfr (by rw [cat_sh]; exact hlo) (Nat.le_refl _) (Nat.le_refl _) hd (h p e s m args below meth c hc H locs lr hl hP hS)
theorem x_mabs {x : Int32} {own : String} (hw : M.1.cls = own) (hlink : Cond.methodLink own idx Lib.Math.abs.name ∈ tbG) (hstat : Cond.static Lib.Math.abs.name ∈ tbG) (hini : Cond.initialized "java/lang/Math" ∈ tbG) (hcode : Cond.code Lib.Math.abs.name Lib.Math.abs.code 1 (some .int) ∈ tbG) (hfr : 1 ≤ M.2.2.2.2.1) (hlo : (st.map fun v => v.category).sum + 13 ≤ M.2.2.2.2.2) (hd : decode M.2.1 pc = .ok (.invokestatic idx, 3))
    (h : Ex E M Q (pc + 3) ls (.int (if 0 ≤ x then x else 0 - x) :: st) μ) : Ex E M Q pc ls (.int x :: st) μ := by
  intro p e s m args below meth c hc H locs lr hl hP hS
  subst hw
  obtain ⟨hx, hb, hr, hml, hown, hts, hlk, hK, hN⟩ := id hc
  exact va_mabs hx hb (hml.trans hl.1.symm) hown (hts _ hlink) (hts _ hstat) (hts _ hini) (hts _ hcode) hfr (by rw [cat_sh]; exact hlo) (Nat.le_refl _) (Nat.le_refl _) hd (h p e s m args below meth c hc H locs lr hl hP hS)
end XC
