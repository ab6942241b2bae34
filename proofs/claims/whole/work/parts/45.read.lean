section READ
variable {E : EV} {μ ν : Mem} {tn : Nat → Nat} {tb : Nat → Nat → Nat} {S : Nat} {L : LD} {q : PA} {s : LZ}
def rdf (L : LD) (it : Nat → Int) : Nat → Nat → LZ → PA → LZ
  | 0, _, s, q => lad1 s q true
  | d + 1, k, s, q => match lo L.1 (it k) with
    | none => rdf L it d (k + 1) (lad1 s q true) p0
    | some l => rdf L it d (k + 1) s (stA L q l)
theorem lad1_le {b : Bool} : s.1 ≤ (lad1 s q b).1 := by
  unfold lad1
  split
  · exact Nat.le_refl _
  · exact Nat.le_succ _
theorem p0_ok {g m : Nat} : Pok g m p0 := ⟨Nat.zero_le _, fun i hi => absurd hi (Nat.not_lt_zero _)⟩
theorem rdf_le {it : Nat → Int} : ∀ d k (s : LZ) (q : PA), s.1 ≤ (rdf L it d k s q).1
  | 0, k, s, q => lad1_le
  | d + 1, k, s, q => by
    unfold rdf
    split
    · exact Nat.le_trans lad1_le (rdf_le d (k + 1) (lad1 s q true) p0)
    · exact rdf_le d (k + 1) s _
theorem rdf_LB {it : Nat → Int} (hg : L.1 ≤ 9) : ∀ d k (s : LZ) (q : PA), k + d ≤ 60 → LB s → Pok L.1 k q → LB (rdf L it d k s q)
  | 0, k, s, q, hk, hB, hq => lad1_LB hB (hq.up hg (by omega))
  | d + 1, k, s, q, hk, hB, hq => by
    unfold rdf
    split
    · exact rdf_LB hg d (k + 1) _ _ (by omega) (lad1_LB hB (hq.up hg (by omega))) p0_ok
    · exact rdf_LB hg d (k + 1) _ _ (by omega) hB (stA_ok hq (lo_lt (by assumption)))
theorem cX_listIfRoom (hB : LB s) (hC : LC μ s) (hP : PCl μ 4 q) (hq : q.1 ≤ 60) : Sp E MX10_listIfRoom [.ref 0, .ref 4] μ (fun v ν => v = none ∧ (LC ν (lad1 s q true) ∧ Fr SLc μ ν)) := by
  have h12 := hB.1
  refine Sp.go rfl rfl rfl (gX10_listIfRoom_0 (by decide) (Rt.i (cI_isFull hC h12) ⟨fun z => ⟨rfl, ?_, Fr.rf⟩, fun z => ?_⟩))
  · rw [b2_0, Decidable.not_not] at z
    unfold lad1
    rw [if_pos z]
    exact hC
  · rw [b2_0] at z
    unfold lad1
    rw [if_neg z]
    exact Sp.v (cI_append (b := true) hC (by omega) hP hq) (fun m hm => ⟨rfl, hm⟩)
def SRc (a k : Nat) : Prop := (a = 4 ∨ a = 5) ∨ SLc a k
def SRm (a k : Nat) : Prop := SP 0 a k ∨ SLm a k
theorem cX_readLoop {sh n f : Nat} (h : RC μ tn tb S) (hsh : sh < 4) (hn : n ≤ 60) (h3 : μ.1 113 sh = nI n) (s0 : Nat) (F : LZ) : ∀ d k m s q, k + d = n → LB s → LC m s → PCl m 4 q → Pok (LN tn tb).1 k q → Fr SRc μ m → rdf (LN tn tb) (fun i => (μ.1 (109 + sh) i).toInt) d k s q = F → Ex E MX10_read (fun v ν => ∃ r : Int32, v = some (.int r) ∧ (r = nI F.1 - nI s0 ∧ LC ν F ∧ Fr SRc μ ν)) 47 [(0, .ref 0), (1, .int (nI sh)), (2, .int (nI s0)), (3, .int (nI k))] [] m := by
  have hg := h.2.1.1
  intro d
  induction d with
  | zero =>
    intro k m s q hk hB hC hP hq hf hF
    have s1 : m.1 113 sh = nI n := by rw [(hf 113 sh (by unfold SRc SLc; omega)).1]; exact h3
    refine gX10_read_47 (Rt.i (cS_size hsh) ?_)
    rw [s1]
    simp (disch := omega) only [n_lt]
    refine ⟨fun z => by omega, fun _ => Rt.i (cS_size hsh) ?_⟩
    rw [s1]
    simp (disch := omega) only [n_le]
    refine ⟨fun _ => Sp.v (cX_listIfRoom hB hC hP (by have := hq.1; omega)) (fun m9 hm9 => Rt.v (cP_empty (by decide)) (fun v11 e11 => ?_)), fun z => by omega⟩
    have hF : lad1 s q true = F := hF
    rw [hF] at hm9
    have hC' : LC (mI m9 4 1 0) F := hm9.1.fr (Fr.I (S := fun a _ => a = 4) rfl) (by omega) (fun o k _ _ => by omega)
    have fT : Fr SRc μ (mI m9 4 1 0) := Fr.tr (Fr.tr hf (hm9.2.up (fun _ _ => Or.inr))) (Fr.I (by unfold SRc; omega))
    rw [e11, n_addc]
    refine gX10_read_47 (Rt.i (cS_size hsh) ?_)
    rw [(fT 113 sh (by unfold SRc SLc; omega)).1, h3]
    simp (disch := omega) only [n_lt]
    exact ⟨fun _ => Rt.i (cI_size hC') ⟨_, rfl, (by first | rfl | trivial), hC', fT⟩, fun z => by omega⟩
  | succ d ih =>
    intro k m s q hk hB hC hP hq hf hF
    have s1 : m.1 113 sh = nI n := by rw [(hf 113 sh (by unfold SRc SLc; omega)).1]; exact h3
    have rm : RC m tn tb S := h.frS hf (fun o k _ => by unfold SRc SLc; omega) (by unfold SRc SLc; omega)
    refine gX10_read_47 (Rt.i (cS_size hsh) ?_)
    rw [s1]
    simp (disch := omega) only [n_lt]
    refine ⟨fun z => by omega, fun _ => Rt.i (cS_size hsh) ?_⟩
    rw [s1]
    simp (disch := omega) only [n_le]
    refine ⟨fun z => by omega, fun _ => Rt.i (cS_item hsh s1 hn (by omega)) (Rt.i (cL_letterOf rm.2.1 _) ?_)⟩
    rw [(hf (109 + sh) k (by unfold SRc SLc; omega)).1, oI_none hg]
    unfold rdf at hF
    generalize hl : lo (LN tn tb).1 (μ.1 (109 + sh) k).toInt = ol at hF ⊢
    refine ⟨fun z => ?_, fun z => ?_⟩
    · cases ol with
      | none => exact absurd rfl z
      | some l =>
        have hF : rdf (LN tn tb) (fun i => (μ.1 (109 + sh) i).toInt) d (k + 1) s (stA (LN tn tb) q l) = F := hF
        have l2 := lo_lt hl
        refine Rt.i (cL_isWatched rm.2.1 l2) ?_
        rw [b2_0]
        refine ⟨fun z v20 e20 => ?_, fun z => ?_⟩
        · rw [e20, n_addc]
          unfold stA at hF
          rw [if_neg z] at hF
          exact ih (k + 1) m s q (by omega) hB hC hP ⟨by have := hq.1; omega, hq.2⟩ hf hF
        · have hok := stA_ok (L := LN tn tb) hq l2
          unfold stA at hF hok
          rw [if_pos (Decidable.not_not.mp z)] at hF hok
          refine Sp.v (cP_stamp (by decide) hP hq hg (by omega) l2) (fun m21 hm v22 e22 => ?_)
          rw [e22, n_addc]
          exact ih (k + 1) m21 s _ (by omega) hB (hC.fr hm.2 (by omega) (fun o k _ _ => by omega)) hm.1 hok (Fr.tr hf (hm.2.up (fun a k q => Or.inl (by omega)))) hF
    · cases ol with
      | some l => cases z
      | none =>
        have hF : rdf (LN tn tb) (fun i => (μ.1 (109 + sh) i).toInt) d (k + 1) (lad1 s q true) p0 = F := hF
        refine Sp.v (cX_listIfRoom hB hC hP (by have := hq.1; omega)) (fun m9 hm9 => Rt.v (cP_empty (by decide)) (fun v11 e11 => ?_))
        rw [e11, n_addc]
        exact ih (k + 1) _ _ p0 (by omega) (lad1_LB hB (hq.up hg (by omega))) (hm9.1.fr (Fr.I (S := fun a _ => a = 4) rfl) (by omega) (fun o k _ _ => by omega)) ⟨rde, fun i hi => absurd hi (Nat.not_lt_zero _)⟩ p0_ok (Fr.tr (Fr.tr hf (hm9.2.up (fun _ _ => Or.inr))) (Fr.I (by unfold SRc; omega))) hF
end READ
