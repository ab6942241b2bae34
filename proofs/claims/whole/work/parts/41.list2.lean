section LIST2
variable {E : EV} {μ ν : Mem} {tn : Nat → Nat} {tb : Nat → Nat → Nat} {S : Nat} {s : LZ}
theorem Pok.up {g m : Nat} {p : PA} (h : Pok g m p) (hg : g ≤ 9) (hm : m ≤ 60) : Pok 9 60 p := ⟨Nat.le_trans h.1 hm, fun i hi => by have := h.2 i hi; omega⟩
theorem bl_0 : b2 (false = true) = 0 := by decide
theorem bl_1 : b2 (true = true) = 1 := by decide
theorem bl_y {w : Nat} (h : w ≤ 1) : ∃ b : Bool, nI w = b2 (b = true) := by
  rcases (show w = 0 ∨ w = 1 by omega) with e | e
  · exact ⟨false, by rw [e]; decide⟩
  · exact ⟨true, by rw [e]; decide⟩
theorem SP_SLi {w o k : Nat} (h : SP w o k) : SLi o k := Or.inl (SP_up h)
theorem cM_list {b : Bool} {t : Nat} (h : RC μ tn tb S) (hs : LM μ s) (hB : LB s) (ht : 1 ≤ t ∧ t < 4) : Sp E MX11_list [.ref 123, .int (nI t), .int (b2 (b = true))] μ (fun v ν => ∃ r, v = some (.int r) ∧ (r = (if s.1 = 12 then -4 else nI (s.1 + 1)) ∧ LM ν (lad1 s (PW (LN tn tb) tn tb t) b) ∧ Fr (fun o k => SP 0 o k ∨ SLm o k) μ ν)) := by
  have i2 : Rg (b2 (b = true)) 0 1 := by cases b <;> decide
  have i1 : Rg (nI t) 1 3 := by rw [Rg.nI (by omega)]; omega
  refine Sp.go rfl rfl rfl (gX11_list_0 (Rt.i (cM_isWay _) ⟨fun z => absurd i1 (by rw [b2_0] at z; exact z), fun _ => Rt.i (cM_isTwo _) ⟨fun _ => ?_, fun z => absurd i2 (by rw [b2_0] at z; exact z)⟩⟩))
  refine Sp.v (cM_findPaper (w := 0) (by decide) (by omega) h) (fun m7 hm => ?_)
  obtain ⟨hP, -, hf⟩ := hm
  have hq : Pok 9 60 (PW (LN tn tb) tn tb t) := (h.pok (by omega)).up h.2.1.1 (by omega)
  have hs7 : LM m7 s := hs.fr hf (by unfold SP SM Sst; omega) (fun o k _ _ => by unfold SP SM Sst; omega)
  have fin : ∀ r m, (r = (if s.1 = 12 then -4 else nI (s.1 + 1)) ∧ LM m (lad1 s (PW (LN tn tb) tn tb t) b) ∧ Fr SLm m7 m) → ∃ r2, some (Value.int r) = some (.int r2) ∧ (r2 = (if s.1 = 12 then -4 else nI (s.1 + 1)) ∧ LM m (lad1 s (PW (LN tn tb) tn tb t) b) ∧ Fr (fun o k => SP 0 o k ∨ SLm o k) μ m) := fun r m q => ⟨r, rfl, q.1, q.2.1, Fr.tr (hf.up (fun _ _ => Or.inl)) (q.2.2.up (fun _ _ => Or.inr))⟩
  cases b
  · exact ⟨fun _ => Sp.i (cM_lists (b := false) hs7 hB hP hq) fin, fun z => absurd z (by decide)⟩
  · exact ⟨fun z => absurd bl_1 z, fun _ => Sp.i (cM_lists (b := true) hs7 hB hP hq) fin⟩
theorem op_list (h : RC μ tn tb S) (hL : RLi μ s) (x y : Int32) : Op E MX10_list MX11_list [.int x, .int y] μ (fun ν => (∃ s', RLi ν s') ∧ Fr SLi μ ν) := by
  obtain ⟨hB, hC, hM⟩ := hL
  have h12 := hB.1
  by_cases c1 : Rg x 1 3
  · by_cases c2 : Rg y 0 1
    · obtain ⟨t, ht, rfl⟩ := Rg.nat (x := x) (b := 3) ⟨by have := c1.1; omega, c1.2⟩
      obtain ⟨w, hw, rfl⟩ := Rg.nat (x := y) (b := 1) c2
      have c1' := c1
      rw [Rg.nI (by omega)] at c1'
      obtain ⟨b, hb⟩ := bl_y hw
      refine Sp.go rfl rfl rfl (gX10_list_0 (Rt.i (cX_isWay _) ⟨fun q => absurd c1 (by rw [b2_0] at q; exact q), fun _ => ?_⟩))
      simp (disch := omega) only [n_lt0, n_lec]
      refine ⟨fun z => z.elim, fun _ => ⟨fun _ => Rt.i (cI_isFull hC h12) ⟨fun z => ?_, fun z => ⟨_, rfl, ?_⟩⟩, fun z => by omega⟩⟩
      · rw [b2_0] at z
        have hq := (h.pok (t := t) (by omega)).up h.2.1.1 (by omega)
        refine Sp.v (cX_stampWay h (Or.inl rfl) (by omega)) (fun m9 hm => ?_)
        obtain ⟨hP, hf⟩ := hm
        have hC9 : LC m9 s := hC.fr hf (by omega) (fun o k _ _ => by omega)
        rw [hb]
        refine Sp.v (cI_append hC9 (by omega) hP hq.1) (fun m10 hm10 => Rt.i (cI_size hm10.1) ⟨_, rfl, ?_⟩)
        have f9 : Fr SLi μ m9 := hf.up (fun o k q => SQ_SLi (by unfold SQ; omega))
        have f10 : Fr SLi μ m10 := Fr.tr f9 (hm10.2.up (fun _ _ => SLc_SLi))
        have hM10 : LM m10 s := (hM.fr hf (by omega) (fun o k _ _ => by omega)).fr hm10.2 (by unfold SLc; omega) (fun o k _ _ => by unfold SLc; omega)
        refine (cM_list (b := b) (h.frL f10) hM10 hB (by omega)).mono (fun v m ⟨r, q1, q2, q3, q4⟩ => ?_)
        unfold lad1 at q3
        rw [if_neg z] at q2 q3
        refine ⟨by rw [q1, q2]; rfl, ⟨lad s (PW (LN tn tb) tn tb t) b, lad_LB hB (by omega) hq, hm10.1.fr q4 (by unfold SP SM Sst SLm; omega) (fun o k _ _ => by unfold SP SM Sst SLm; omega), q3⟩, Fr.tr f10 (q4.up (fun o k q => q.elim SP_SLi SLm_SLi))⟩
      · rw [b2_0, Decidable.not_not] at z
        rw [hb]
        refine (cM_list (b := b) h hM hB (by omega)).mono (fun v m ⟨r, q1, q2, q3, q4⟩ => ?_)
        unfold lad1 at q3
        rw [if_pos z] at q2 q3
        exact ⟨by rw [q1, q2], ⟨s, hB, hC.fr q4 (by unfold SP SM Sst SLm; omega) (fun o k _ _ => by unfold SP SM Sst SLm; omega), q3⟩, q4.up (fun o k q => q.elim SP_SLi SLm_SLi)⟩
    · have key : Sp E MX11_list [.ref 123, .int x, .int y] μ (fun v' ξ => v' = some (.int (-2)) ∧ ((∃ s', RLi ξ s') ∧ Fr SLi μ ξ)) := by
        refine Sp.go rfl rfl rfl (gX11_list_0 (Rt.i (cM_isWay _) ⟨fun q => ⟨rfl, ⟨s, hB, hC, hM⟩, Fr.rf⟩, fun _ => Rt.i (cM_isTwo _) ⟨fun z => absurd (b2_f c2) z, fun z => ⟨rfl, ⟨s, hB, hC, hM⟩, Fr.rf⟩⟩⟩))
      refine Sp.go rfl rfl rfl (gX10_list_0 (Rt.i (cX_isWay _) ⟨fun q => ⟨_, rfl, key⟩, fun _ => ⟨fun z => ⟨_, rfl, key⟩, fun z => ⟨fun z2 => ?_, fun _ => ⟨_, rfl, key⟩⟩⟩⟩))
      rw [i_lt, show (0 : Int32).toInt = 0 by decide] at z
      rw [i_le, show (1 : Int32).toInt = 1 by decide] at z2
      exact absurd ⟨by omega, z2⟩ c2
  · have key : Sp E MX11_list [.ref 123, .int x, .int y] μ (fun v' ξ => v' = some (.int (-2)) ∧ ((∃ s', RLi ξ s') ∧ Fr SLi μ ξ)) := by
      refine Sp.go rfl rfl rfl (gX11_list_0 (Rt.i (cM_isWay _) ⟨fun q => ⟨rfl, ⟨s, hB, hC, hM⟩, Fr.rf⟩, fun z => absurd (b2_f c1) z⟩))
    exact Sp.go rfl rfl rfl (gX10_list_0 (Rt.i (cX_isWay _) ⟨fun q => ⟨_, rfl, key⟩, fun z => absurd (b2_f c1) z⟩))
theorem op_unlist (hL : RLi μ s) : Op E MX10_unlist MX11_unlist [] μ (fun ν => (∃ s', RLi ν s') ∧ Fr SLi μ ν) := by
  obtain ⟨hB, hC, hM⟩ := hL
  have h12 := hB.1
  refine Sp.go rfl rfl rfl (gX10_unlist_0 (Rt.i (cI_size hC) ?_))
  simp (disch := omega) only [n_eq0]
  refine ⟨fun z => ?_, fun z => ⟨_, rfl, ?_⟩⟩
  · have e1 : nI s.1 - 1 = nI (s.1 - 1) := pk_sub (b := 1) (by omega)
    have hC' : LC (mI μ 78 4 (nI (s.1 - 1))) (s.1 - 1, s.2) := by
      refine ⟨rde, fun k hk => ?_⟩
      have hk : k < s.1 - 1 := hk
      obtain ⟨a, b, c⟩ := hC.2 k (by omega)
      exact ⟨by rw [mI_1, if_neg (by omega)]; exact a, by rw [mI_1, if_neg (by omega)]; exact b, fun p hp => by rw [mI_1, if_neg (by omega)]; exact c p hp⟩
    have drop : Rt E MX4_dropLast [.ref 78] μ none (mI μ 78 4 (nI (s.1 - 1))) := by
      refine Sp.go rfl rfl rfl (gX4_dropLast_0 (fun v1 e => ⟨rfl, ?_⟩))
      rw [hC.1, e1] at e
      simp (disch := omega) only [n_clt] at e
      rw [e]
      split
      · rfl
      · rw [show s.1 - 1 = 0 by omega]; rfl
    refine Rt.v drop (Rt.i (cI_size hC') ⟨_, rfl, Sp.go rfl rfl rfl (gX11_unlist_0 ?_)⟩)
    rw [mI_1, if_neg (by omega), hM.1]
    simp (disch := omega) only [n_eq0]
    refine ⟨fun _ v2 e2 => ?_, fun z2 => absurd z2 z⟩
    rw [e1] at e2
    rw [e2]
    refine ⟨by rw [rde], ⟨(s.1 - 1, s.2), ⟨by show s.1 - 1 ≤ 12; omega, fun k hk => hB.2 k (by have : k < s.1 - 1 := hk; omega)⟩, hC'.fr (Fr.I (S := fun a k => a = 123 ∧ k = 28) ⟨rfl, rfl⟩) (by omega) (fun o k _ _ => by omega), rde, fun k hk => ?_⟩, Fr.tr (Fr.I (by unfold SLi; omega)) (Fr.I (by unfold SLi; omega))⟩
    have hk : k < s.1 - 1 := hk
    obtain ⟨a, b, c⟩ := hM.2 k (by omega)
    exact ⟨by rw [mI_1, if_neg (by omega), mI_1, if_neg (by omega)]; exact a, by rw [mI_1, if_neg (by omega), mI_1, if_neg (by omega)]; exact b, fun p hp => by rw [mI_1, if_neg (by omega), mI_1, if_neg (by omega)]; exact c p hp⟩
  · refine Sp.go rfl rfl rfl (gX11_unlist_0 ?_)
    rw [hM.1]
    simp (disch := omega) only [n_eq0]
    exact ⟨fun z2 => absurd z z2, fun _ => ⟨(by first | rfl | trivial), ⟨s, hB, hC, hM⟩, Fr.rf⟩⟩
end LIST2
