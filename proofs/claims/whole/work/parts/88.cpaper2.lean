section CPAPER2
theorem y_size {p : Program} {l : Launch} {e : Env} {R : Room} {s : State} {m : MethodId} {args : Array Value} {below : List Frame} {meth : Method} {c : Code} {H : Heap} {locs : List Loc} {cells slots : Nat} {Q : State → Prop} {g : JFrame} (kk : H.size ≤ s.heap.size + cells → W p l e R s m args below meth c H locs cells slots Q g) : W p l e R s m args below meth c H locs cells slots Q g := by
  intro T hT X
  have h1 := X.heapSize
  rw [hT] at h1
  exact kk (by omega) T hT X
set_option maxHeartbeats 4000000 in
set_option maxRecDepth 100000 in
/-- new Paper(): a row of sixty stamps, none yet -/
theorem c_X5 (E : EV) (o : Nat) : Met E.1 yX5_init (mws MX5_init) ({ frames := 1, cells := 1, slots := 60, locals := 12 }) (va_Pc [.ref (E.2.2.2 + o)] (fun U => U.heap.size = E.2.2.2 + o + 1 ∧ va_P E.2.1 classes [(E.2.2.2 + o, .inr (5, [.null, .int 0]))] U.heap ∧ va_K E.2.1 classes (tys E) U)) (va_Qv (fun _ : Unit => True) (fun _ t => t.heap.size = E.2.2.2 + o + 2 ∧ va_P E.2.1 classes [(E.2.2.2 + o, .inr (5, [.ref (E.2.2.2 + o + 1), .int 0])), (E.2.2.2 + o + 1, .inl (E.2.2.1 20, 60, .inl (fun _ => 0)))] t.heap) (fun q => E.2.2.2 + o ≤ q)) 1 60 (fun q => E.2.2.2 + o ≤ q) := by
  refine Met.ofW (cc := cX5_init) (maxL := 1) (ret := none) (by decide) rfl ?_
  intro p e s m args below meth c s₁ B hml hv
  obtain ⟨rfl, hsz, hP, hK⟩ := hv
  have hx := B.exec
  have hb := B.bytes
  have hr := B.returns
  have hts0 := atoms_spec (ws := mws MX5_init) B.pre
  have hts : ∀ w ∈ tbG, w.before _ s = true := fun w hw => hts0 w (List.mem_cons_of_mem _ hw)
  have hown : s.vm.findClass RX5 = some m.cls := findClass_of_methodNamed B.named
  have hin : meth.name = "<init>" := (name_of_methodNamed B.named B.method).1
  have hA : ∀ q : Nat, s.heap.size ≤ q → E.2.2.2 + o ≤ q := fun q h => by omega
  have hD : va_D (fun q => E.2.2.2 + o ≤ q) ([(E.2.2.2 + o, .inr (5, [.null, .int 0]))] : va_W) := by
    refine ⟨fun i j p q hi hj _ => ?_, fun k q hk => ?_⟩
    · have a := (List.getElem?_eq_some_iff.mp hi).1
      have b := (List.getElem?_eq_some_iff.mp hj).1
      have a : i < 1 := a
      have b : j < 1 := b
      omega
    · obtain ⟨a, b⟩ := List.getElem?_eq_some_iff.mp hk
      have a : k < 1 := a
      have k0 : k = 0 := by omega
      subst k0
      cases b
      exact Nat.le_refl _
  have hS : va_S (fun q => E.2.2.2 + o ≤ q) s.heap s.heap [] := va_S.rf
  have hl := lv_entry ([.ref (E.2.2.2 + o)]) (n := 1) (Nat.le_of_ble_eq_true rfl)
  rw [lg_entry_eq]
  generalize (lg_sl ([.ref (E.2.2.2 + o)]) ++ List.replicate (1 - (lg_sl ([.ref (E.2.2.2 + o)])).length) Slot.unset).toArray = ls at hl ⊢
  have hl : lv_has ls 1 [(0, .ref (E.2.2.2 + o))] := hl
  refine lv_aload_n hx hb (dk zX5_init 0 rfl) rfl (lv_at hl 0 rfl) ?_
  refine W.objInit hx hb hown (hts _ wk_obj5) (hts _ wk_oi) (hts _ wk_oc) rfl (by rw [hml]; exact hl.1) rfl (dk zX5_init 1 rfl) (Nat.le_of_ble_eq_true rfl) (Nat.le_of_ble_eq_true rfl) ?_
  refine W.eq (g2 := F0 m 4 ls []) rfl ?_
  refine lv_aload_n hx hb (dk zX5_init 2 rfl) rfl (lv_at hl 0 rfl) ?_
  refine lv_bipush hx hb (dk zX5_init 3 rfl) (v := 60) rfl ?_
  refine y_newa (atype := .int) (ty := .int) (qk := 0) (a0 := (60, .inl (fun _ => 0))) (N := 60) hx hb (hts _ wk_ai) rfl hK rfl hP hD hS hA (fun cA => rfl) (by decide) (by decide) (Nat.le_of_ble_eq_true rfl) (Nat.le_of_ble_eq_true rfl) (Nat.le_of_ble_eq_true rfl) hsz (dk zX5_init 4 rfl) (fun H1 z1 hP1 hD1 hS1 o1 => ?_)
  refine va_putF hx hb (Ts := tbG) hts iG5 tyX5 tyX5_ok nmX5 hown hK hP1 hD1 hS1 0 (fs := [.null, .int 0]) rfl rfl 0 (by decide) (hts _ wk_f59) (fun x h => h) rfl hin rfl (ty := .array .int) rfl rfl rfl (by decide) (dk zX5_init 5 rfl) (fun H2 l2 hP2 hD2 hS2 => ?_)
  refine y_size (fun hle => ?_)
  have hlt := (hP2 1 _ rfl).lt
  refine W.vret hx hb hr (fun t ht hW => ⟨⟨(), rfl, trivial, ?_, by rw [ht]; exact hP2⟩, hS2.F ht⟩) hS2.2.2 (dk zX5_init 6 rfl)
  rw [ht]
  have hlt : E.2.2.2 + o + 1 < H2.size := hlt
  omega
end CPAPER2
