/-! the answers on papers: paper, same -/
theorem m1_le (x : Int32) : ((-1 : Int32) ≤ x) = (-1 ≤ x.toInt) := by rw [i_le, show (-1 : Int32).toInt = -1 by decide]
theorem m1_eq (x : Int32) : (x = -1) = (x.toInt = -1) := by rw [i_eq, show (-1 : Int32).toInt = -1 by decide]
/-- how many both begin with alike -/
def alk (p q : PA) : Nat → Nat → Nat
  | 0, k => k
  | d + 1, k => if p.2 k = q.2 k then alk p q d (k + 1) else k
def al (p q : PA) : Nat := alk p q (min p.1 q.1) 0
theorem alk_le (p q : PA) : ∀ d k, k ≤ alk p q d k ∧ alk p q d k ≤ k + d
  | 0, k => ⟨Nat.le_refl _, Nat.le_refl _⟩
  | d + 1, k => by
    unfold alk
    split
    · have := alk_le p q d (k + 1); omega
    · omega
theorem al_le (p q : PA) : al p q ≤ p.1 ∧ al p q ≤ q.1 := by
  have := alk_le p q (min p.1 q.1) 0
  unfold al
  omega
section SAME
variable {E : EV} {μ ν : Mem} {tn : Nat → Nat} {tb : Nat → Nat → Nat} {S : Nat} {L : LD} {g m : Nat} {p q : PA}
theorem cP_atP {o k : Nat} (ho : kd o = 5) (hP : PCl μ o p) (hp : p.1 ≤ 60) (hk : k < 2 ^ 31) : Rt E MX5_at [.ref o, .int (nI k)] μ (some (.int (if k < p.1 then nI (p.2 k) else -1))) μ := by
  have := cP_at (E := E) ho hP.1 hp hk
  by_cases e : k < p.1
  · rw [if_pos e, hP.2 k e] at this
    rw [if_pos e]
    exact this
  · rw [if_neg e] at this ⊢
    exact this
theorem op_paper (h : RC μ tn tb S) (x y : Int32) : Op E MX10_paper MX11_paper [.int x, .int y] μ (fun ν => Fr SQ μ ν) := by
  refine Sp.go rfl rfl rfl (gX10_paper_0 (Rt.i (cX_isWay x) ⟨fun c => ⟨_, rfl, ?_⟩, fun c => ⟨fun c2 => ?_, fun c2 => ⟨_, rfl, ?_⟩⟩⟩))
  · exact Sp.go rfl rfl rfl (gX11_paper_0 (Rt.i (cM_isWay _) ⟨fun _ => ⟨rfl, Fr.rf⟩, fun z => absurd c z⟩))
  rotate_left
  · exact Sp.go rfl rfl rfl (gX11_paper_0 (Rt.i (cM_isWay _) ⟨fun z => absurd z c, fun _ => ⟨fun z => absurd z c2, fun _ => ⟨rfl, Fr.rf⟩⟩⟩))
  have c' := c
  rw [b2_0, Decidable.not_not] at c
  obtain ⟨t, ht, rfl⟩ := Rg.nat (x := x) (b := 3) ⟨by have := c.1; omega, c.2⟩
  rw [Rg.nI (by omega)] at c
  refine Sp.v (cX_stampWay h (Or.inl rfl) (by omega)) (fun m5 hm => ?_)
  obtain ⟨hP, hf⟩ := hm
  have hok := PW_ok (L := LN tn tb) (tn := tn) (tb := tb) (t := t) (fun e => by have := (h.1 t (by omega)).1; unfold cap at this; rw [if_neg e] at this; exact this)
  have hg := h.2.1.1
  have hfQ : Fr SQ μ m5 := hf.up (fun a k q => by unfold SQ; omega)
  have h5 := h.fr hfQ
  generalize hpp : PW (LN tn tb) tn tb t = p at hP hok
  -- the reference
  have ref : ∀ r : Int32, (∀ m6 : Mem, PMd m6 0 p → Fr SQ μ m6 → ((¬ y = -1 → (((m6.1 134 0) ≤ y → (some (Value.int (-1)) = some (.int r) ∧ Fr SQ μ m6)) ∧ (¬ (m6.1 134 0) ≤ y → vp_in y 120 ∧ (Sp E MX11_byteOf [.int (m6.1 133 y.toNatClampNeg)] m6 (fun v m9 => ∃ r10 : Int32, v = some (.int r10) ∧ (some (Value.int r10) = some (.int r) ∧ Fr SQ μ m9)))))) ∧ (y = -1 → (some (Value.int (m6.1 134 0)) = some (.int r) ∧ Fr SQ μ m6)))) → Sp E MX11_paper [.ref 123, .int (nI t), .int y] m5 (fun v' ξ => v' = some (.int r) ∧ Fr SQ μ ξ) := by
    intro r hr
    refine Sp.go rfl rfl rfl (gX11_paper_0 (Rt.i (cM_isWay _) ⟨fun z => absurd z c', fun _ => ⟨fun _ => ?_, fun z => absurd c2 z⟩⟩))
    refine Sp.v (cM_findPaper (w := 0) (by decide) (by omega) h5) (fun m6 hm6 => ?_)
    rw [hpp] at hm6
    exact hr m6 hm6.1 (Fr.tr hfQ (hm6.2.2.up (fun _ _ => SP_up)))
  refine ⟨fun c3 => ?_, fun c3 => ?_⟩
  · rw [m1_le] at c2
    rw [m1_eq] at c3
    obtain ⟨k, hk, rfl⟩ := nI_of (x := y) (by rw [i_lt, show (0 : Int32).toInt = 0 by decide]; omega)
    have c3' : ¬ nI k = -1 := by rw [m1_eq]; exact c3
    refine Rt.i (cP_atP (by decide) hP (by have := hok.1; omega) hk) ?_
    by_cases e : k < p.1
    · have hl := hok.2 k e
      rw [if_pos e]
      refine Rt.i (cX_byteOf (by omega)) ⟨_, rfl, ref _ (fun m6 hM f6 => ⟨fun _ => ?_, fun z => absurd z c3'⟩)⟩
      have h1 := hok.1
      rw [hM.1]
      simp (disch := omega) only [n_le, n_in, nI_clamp]
      refine ⟨fun z => by omega, fun _ => ⟨by omega, ?_⟩⟩
      have := hM.2 k e
      rw [show 60 * 0 + k = k by omega] at this
      rw [this]
      exact Rt.i (cM_byteOf (by omega)) ⟨rfl, f6⟩
    · rw [if_neg e]
      refine Rt.i cX_byteOfN ⟨_, rfl, ref _ (fun m6 hM f6 => ⟨fun _ => ?_, fun z => absurd z c3'⟩)⟩
      have h1 := hok.1
      rw [hM.1]
      simp (disch := omega) only [n_le]
      exact ⟨fun _ => ⟨(by first | rfl | trivial), f6⟩, fun z => by omega⟩
  · subst c3
    refine Rt.i (cP_size (by decide)) ⟨_, rfl, ?_⟩
    rw [hP.1]
    exact ref _ (fun m6 hM f6 => ⟨fun z => absurd rfl z, fun _ => ⟨by rw [hM.1], f6⟩⟩)
theorem cP_alike {o o2 m2 : Nat} (ho : kd o = 5) (ho2 : kd o2 = 5) (hP : PCl μ o p) (hQ : PCl μ o2 q) (hp : Pok g m p) (hq : Pok g m2 q) (hg : g ≤ 9) (hm : m ≤ 60) (hm2 : m2 ≤ 60) : Rt E MX5_alike [.ref o, .ref o2] μ (some (.int (nI (al p q)))) μ := by
  have h1 := hp.1
  have h2 := hq.1
  refine Sp.go rfl rfl rfl (gX5_alike_0 ho ho2 (Rt.i (cP_size ho2) (fun v3 e3 => ?_)))
  have e3' : v3 = nI (min p.1 q.1) := by
    rw [e3, hP.1, hQ.1]
    simp (disch := omega) only [n_lt]
    split
    · rw [Nat.min_eq_right (by omega)]
    · rw [Nat.min_eq_left (by omega)]
  subst e3'
  clear e3
  have key : ∀ d k, k + d = min p.1 q.1 → alk p q d k = al p q → Ex E MX5_alike (fun v' ν' => v' = some (.int (nI (al p q))) ∧ ν' = μ) 14 [(0, .ref o), (1, .ref o2), (2, .int (nI (min p.1 q.1))), (3, .int (nI k))] [] μ := by
    intro d
    induction d with
    | zero =>
      intro k hk ha
      refine gX5_alike_14 ho ho2 ?_
      simp (disch := omega) only [n_le]
      have ha' : k = al p q := ha
      refine ⟨fun _ => ⟨by rw [← ha', ← hk]; rfl, (by first | rfl | trivial)⟩, fun z => by omega⟩
    | succ d ih =>
      intro k hk ha
      refine gX5_alike_14 ho ho2 ?_
      simp (disch := omega) only [n_le]
      refine ⟨fun z => by omega, fun _ => Rt.i (cP_atP ho hP (by omega) (by omega)) (Rt.i (cP_atP ho2 hQ (by omega) (by omega)) ?_)⟩
      have l1 := hp.2 k (by omega)
      have l2 := hq.2 k (by omega)
      rw [if_pos (by omega), if_pos (by omega)]
      simp (disch := omega) only [n_eq]
      have ha' : (if p.2 k = q.2 k then alk p q d (k + 1) else k) = al p q := ha
      refine ⟨fun z v7 e7 => ?_, fun z => ?_⟩
      · rw [if_pos z] at ha'
        rw [e7, nI_1]
        exact ih (k + 1) (by omega) ha'
      · rw [if_neg z] at ha'
        exact ⟨by rw [ha'], (by first | rfl | trivial)⟩
  exact key (min p.1 q.1) 0 (by omega) rfl
theorem cM_alike {m2 : Nat} (hP : PMd μ 0 p) (hQ : PMd μ 1 q) (hp : Pok g m p) (hq : Pok g m2 q) (hg : g ≤ 9) (hm : m ≤ 60) (hm2 : m2 ≤ 60) : Rt E MX11_alike [.ref 123] μ (some (.int (nI (al p q)))) μ := by
  have h1 := hp.1
  have h2 := hq.1
  refine Sp.go rfl rfl rfl (gX11_alike_0 ?_)
  have key : ∀ d k, k + d = min p.1 q.1 → alk p q d k = al p q → Ex E MX11_alike (fun v' ν' => v' = some (.int (nI (al p q))) ∧ ν' = μ) 2 [(0, .ref 123), (1, .int (nI k))] [] μ := by
    intro d
    induction d with
    | zero =>
      intro k hk ha
      refine gX11_alike_2 ?_
      rw [hP.1, hQ.1]
      simp (disch := omega) only [n_le]
      have ha' : k = al p q := ha
      refine ⟨fun _ => ⟨by rw [← ha'], (by first | rfl | trivial)⟩, fun z => ⟨fun _ => ⟨by rw [← ha'], (by first | rfl | trivial)⟩, fun z2 => by omega⟩⟩
    | succ d ih =>
      intro k hk ha
      refine gX11_alike_2 ?_
      rw [hP.1, hQ.1]
      simp (disch := omega) only [n_le, n_in, n_cadd, nI_clamp]
      have l1 := hp.2 k (by omega)
      have l2 := hq.2 k (by omega)
      have r1 := hP.2 k (by omega)
      have r2 := hQ.2 k (by omega)
      rw [show 60 * 0 + k = k by omega] at r1
      rw [show 60 * 1 + k = 60 + k by omega] at r2
      rw [r1, r2]
      simp (disch := omega) only [n_eq]
      have ha' : (if p.2 k = q.2 k then alk p q d (k + 1) else k) = al p q := ha
      refine ⟨fun z => by omega, fun _ => ⟨fun z => by omega, fun _ => ⟨by omega, by omega, fun z => ?_, fun z v6 e6 => ?_⟩⟩⟩
      · rw [if_neg z] at ha'
        exact ⟨by rw [ha'], (by first | rfl | trivial)⟩
      · rw [if_pos z] at ha'
        rw [e6, nI_1]
        exact ih (k + 1) (by omega) ha'
  exact key (min p.1 q.1) 0 (by omega) rfl
theorem PCl.fr {o : Nat} {T : Nat → Nat → Prop} (h : PCl μ o p) (hf : Fr T μ ν) (h1 : ¬ T o 1) (h2 : ∀ k, ¬ T (o + 1) k) : PCl ν o p := by
  refine ⟨?_, fun i hi => ?_⟩
  · rw [(hf _ _ h1).1]; exact h.1
  · rw [(hf _ _ (h2 i)).1]; exact h.2 i hi
theorem RC.pok (h : RC μ tn tb S) {t : Nat} (ht : t < 4) : Pok (LN tn tb).1 30 (PW (LN tn tb) tn tb t) :=
  PW_ok (fun e => by have := (h.1 t ht).1; unfold cap at this; rw [if_neg e] at this; exact this)
/-- both papers of the class -/
theorem cX_two {s t : Nat} (h : RC μ tn tb S) (hs : s < 4) (ht : t < 4) {F : Mem → Prop} (k : ∀ m, PCl m 4 (PW (LN tn tb) tn tb s) → PCl m 6 (PW (LN tn tb) tn tb t) → Fr (fun a _ => 4 ≤ a ∧ a ≤ 7) μ m → F m) : Sp E MX10_stampWay [.ref 0, .int (nI s), .ref 4] μ (fun v m7 => v = none ∧ Sp E MX10_stampWay [.ref 0, .int (nI t), .ref 6] m7 (fun v m8 => v = none ∧ F m8)) := by
  refine Sp.v (cX_stampWay h (Or.inl rfl) hs) (fun m7 hm7 => ?_)
  have f7 : Fr (fun a _ => 4 ≤ a ∧ a ≤ 7) μ m7 := hm7.2.up (fun a k q => by omega)
  refine Sp.v (cX_stampWay (h.fr (f7.up (fun a k q => by unfold SQ; omega))) (Or.inr (Or.inl rfl)) ht) (fun m8 hm8 => k m8 (hm7.1.fr hm8.2 (by omega) (fun _ => by omega)) hm8.1 (Fr.tr f7 (hm8.2.up (fun a k q => by omega))))
theorem cM_two {s t : Nat} (h : RC μ tn tb S) (hs : s < 4) (ht : t < 4) {F : Mem → Prop} (k : ∀ m, PMd m 0 (PW (LN tn tb) tn tb s) → PMd m 1 (PW (LN tn tb) tn tb t) → ML m (LN tn tb) → Fr (fun o k => SP 0 o k ∨ SP 1 o k) μ m → F m) : Sp E MX11_findPaper [.ref 123, .int 0, .int (nI s)] μ (fun v m7 => v = none ∧ Sp E MX11_findPaper [.ref 123, .int 1, .int (nI t)] m7 (fun v m8 => v = none ∧ F m8)) := by
  refine Sp.v (cM_findPaper (w := 0) (by decide) hs h) (fun m7 hm7 => ?_)
  have := (h.pok hs).1
  refine Sp.v (cM_findPaper (w := 1) (by decide) ht (h.frPw hm7.2.2)) (fun m8 hm8 => k m8 (hm7.1.fr (by omega) hm8.2.2 (by unfold SP SM Sst; omega) (fun k _ _ => by unfold SP SM Sst; omega)) hm8.1 hm8.2.1 (Fr.tr (hm7.2.2.up (fun a k q => Or.inl q)) (hm8.2.2.up (fun a k q => Or.inr q))))
theorem SP2_up {o k : Nat} (h : SP 0 o k ∨ SP 1 o k) : SQ o k := h.elim SP_up SP_up
theorem cM_sameOf {s t : Nat} (h : RC μ tn tb S) (hs : s < 4) (ht : t < 4) : Sp E MX11_sameOf [.ref 123, .int (nI s), .int (nI t)] μ (fun v m => ∃ r, v = some (.int r) ∧ (r = b2 (al (PW (LN tn tb) tn tb s) (PW (LN tn tb) tn tb t) = (PW (LN tn tb) tn tb s).1 ∧ al (PW (LN tn tb) tn tb s) (PW (LN tn tb) tn tb t) = (PW (LN tn tb) tn tb t).1) ∧ Fr SQ μ m)) := by
  have hg := h.2.1.1
  have p1 := h.pok hs
  have p2 := h.pok ht
  have q1 := p1.1
  have q2 := p2.1
  have ale := al_le (PW (LN tn tb) tn tb s) (PW (LN tn tb) tn tb t)
  refine Sp.go rfl rfl rfl (gX11_sameOf_0 (cM_two h hs ht (fun m hP hQ hML hf => ?_)))
  have hfQ := hf.up (fun _ _ => SP2_up)
  rw [hP.1, hQ.1]
  simp (disch := omega) only [n_eq]
  refine ⟨fun z => ⟨_, rfl, by rw [b2_f (by omega)], hfQ⟩, fun z => Rt.i (cM_alike hP hQ p1 p2 hg (by omega) (by omega)) ?_⟩
  rw [hP.1]
  simp (disch := omega) only [n_eq]
  exact ⟨fun z2 => ⟨_, rfl, by rw [b2_f (by omega)], hfQ⟩, fun z2 => ⟨_, rfl, by rw [b2_t (by omega)], hfQ⟩⟩
theorem cX_same {s t : Nat} (h : RC μ tn tb S) (hs : 1 ≤ s ∧ s < 4) (ht : 1 ≤ t ∧ t < 4) : Sp E MX10_same [.ref 0, .int (nI s), .int (nI t)] μ (fun v m => ∃ r, v = some (.int r) ∧ (r = b2 (al (PW (LN tn tb) tn tb s) (PW (LN tn tb) tn tb t) = (PW (LN tn tb) tn tb s).1 ∧ al (PW (LN tn tb) tn tb s) (PW (LN tn tb) tn tb t) = (PW (LN tn tb) tn tb t).1) ∧ Fr SQ μ m)) := by
  have hg := h.2.1.1
  have p1 := h.pok hs.2
  have p2 := h.pok ht.2
  have q1 := p1.1
  have q2 := p2.1
  have ale := al_le (PW (LN tn tb) tn tb s) (PW (LN tn tb) tn tb t)
  have ok : ∀ a : Nat, 1 ≤ a ∧ a < 4 → ¬ b2 (Rg (nI a) 1 3) = 0 := fun a ha z => by
    rw [b2_0, Rg.nI (by omega)] at z
    omega
  refine Sp.go rfl rfl rfl (gX10_same_0 (Rt.i (cX_isWay _) ⟨fun z => absurd z (ok s hs), fun _ => Rt.i (cX_isWay _) ⟨fun _ => ?_, fun z => absurd z (ok t ht)⟩⟩))
  refine cX_two h hs.2 ht.2 (fun m hP hQ hf => ?_)
  have hfQ : Fr SQ μ m := hf.up (fun a k q => by unfold SQ; omega)
  refine Rt.i (cP_alike (by decide) (by decide) hP hQ p1 p2 hg (by omega) (by omega)) (Rt.i (cP_size (by decide)) ?_)
  rw [hP.1]
  simp (disch := omega) only [n_eq]
  refine ⟨fun z => ⟨_, rfl, by rw [b2_f (by omega)], hfQ⟩, fun z => Rt.i (cP_size (by decide)) ?_⟩
  rw [hQ.1]
  simp (disch := omega) only [n_eq]
  exact ⟨fun z2 => ⟨_, rfl, by rw [b2_f (by omega)], hfQ⟩, fun z2 => ⟨_, rfl, by rw [b2_t (by omega)], hfQ⟩⟩
theorem op_same (h : RC μ tn tb S) (x y : Int32) : Op E MX10_same MX11_same [.int x, .int y] μ (fun ν => Fr SQ μ ν) := by
  by_cases c : Rg x 1 3
  · by_cases c2 : Rg y 1 3
    · obtain ⟨s, hs, rfl⟩ := Rg.nat (x := x) (b := 3) ⟨by have := c.1; omega, c.2⟩
      obtain ⟨t, ht, rfl⟩ := Rg.nat (x := y) (b := 3) ⟨by have := c2.1; omega, c2.2⟩
      have c' := c
      have c2' := c2
      rw [Rg.nI (by omega)] at c' c2'
      refine Sp.i (cX_same h (by omega) (by omega)) (fun r m hm => ?_)
      refine Sp.go rfl rfl rfl (gX11_same_0 (Rt.i (cM_isWay _) ⟨fun z => absurd c (by rw [b2_0] at z; exact z), fun _ => Rt.i (cM_isWay _) ⟨fun z => absurd c2 (by rw [b2_0] at z; exact z), fun _ => ?_⟩⟩))
      refine Sp.i (cM_sameOf (h.fr hm.2) (by omega) (by omega)) (fun r2 m2 hm2 => ⟨by rw [hm2.1, hm.1], Fr.tr hm.2 hm2.2⟩)
    · refine Sp.go rfl rfl rfl (gX10_same_0 (Rt.i (cX_isWay _) ⟨fun z => absurd c (by rw [b2_0] at z; exact z), fun _ => Rt.i (cX_isWay _) ⟨fun z => absurd (b2_f c2) z, fun _ => ⟨_, rfl, ?_⟩⟩⟩))
      exact Sp.go rfl rfl rfl (gX11_same_0 (Rt.i (cM_isWay _) ⟨fun z => absurd c (by rw [b2_0] at z; exact z), fun _ => Rt.i (cM_isWay _) ⟨fun _ => ⟨rfl, Fr.rf⟩, fun z => absurd (b2_f c2) z⟩⟩))
  · refine Sp.go rfl rfl rfl (gX10_same_0 (Rt.i (cX_isWay _) ⟨fun _ => ⟨_, rfl, ?_⟩, fun z => absurd (b2_f c) z⟩))
    exact Sp.go rfl rfl rfl (gX11_same_0 (Rt.i (cM_isWay _) ⟨fun _ => ⟨rfl, Fr.rf⟩, fun z => absurd (b2_f c) z⟩))
end SAME
