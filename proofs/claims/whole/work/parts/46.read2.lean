section READ2
variable {E : EV} {μ ν : Mem} {tn : Nat → Nat} {tb : Nat → Nat → Nat} {S : Nat} {L : LD} {q : PA} {s : LZ}
theorem n_le0' {k : Nat} (hk : k < 2 ^ 31) : (nI k ≤ 0) = (k ≤ 0) := n_lec (c := 0) hk (by decide)
theorem cM_readLoop {sh n : Nat} (hg : L.1 ≤ 9) (hsh : sh < 4) (hn : n ≤ 60) (h3 : μ.1 125 sh = nI n) (s0 : Nat) (it : Nat → Int) (hit : ∀ i, i < n → (μ.1 126 (60 * sh + i)).toInt = it i) (F : LZ) : ∀ d k m s q, k + d = n → LB s → LM m s → ML m L → PMd m 0 q → Pok L.1 k q → s0 ≤ s.1 → Fr SRm μ m → rdf L it d k s q = F → Ex E MX11_read (fun v ν => ∃ r : Int32, v = some (.int r) ∧ (r = nI (F.1 - s0) ∧ LM ν F ∧ Fr SRm μ ν)) 35 [(0, .ref 123), (1, .int (nI sh)), (2, .int (nI (s.1 - s0))), (3, .int (nI k))] [] m := by
  -- one listing
  have one : ∀ (k : Nat) (m : Mem) (s : LZ) (q : PA) (G : Mem → Int32 → Prop), LB s → LM m s → ML m L → PMd m 0 q → Pok L.1 k q → k ≤ 60 → s0 ≤ s.1 → Fr SRm μ m → (∀ m', LM m' (lad1 s q true) → ML m' L → PMd m' 0 p0 → Fr SRm μ m' → G m' (nI ((lad1 s q true).1 - s0))) → Sp E MX11_lists [.ref 123, .int 1] m (fun v m4 => ∃ r5 : Int32, v = some (.int r5) ∧ ((r5 ≤ 0 → ∀ v7 : Int32, v7 = nI (s.1 - s0) + 0 → G (mI m4 134 0 0) v7) ∧ (¬ r5 ≤ 0 → ∀ v9 : Int32, v9 = nI (s.1 - s0) + 1 → G (mI m4 134 0 0) v9))) := by
    intro k m s q G hB hM hC hP hq hk h0 hf hG
    have h12 := hB.1
    refine Sp.i (cM_lists (b := true) hM hB hP (hq.up hg hk)) (fun r m4 hm => ?_)
    obtain ⟨e, hM4, f4⟩ := hm
    have f5 : Fr (fun a k => a = 134) m4 (mI m4 134 0 0) := Fr.I rfl
    have go := hG (mI m4 134 0 0) (hM4.fr f5 (by omega) (fun o k _ _ => by omega)) ((hC.frS f4 (by unfold SLm; omega) (by unfold SLm; omega) (fun k => by unfold SLm; omega)).frS f5 (by omega) (by omega) (fun k => by omega)) ⟨rde, fun i hi => absurd hi (Nat.not_lt_zero _)⟩ (Fr.tr (Fr.tr hf (f4.up (fun _ _ => Or.inr))) (Fr.I (Or.inl (Or.inr (by unfold Sst; omega)))))
    by_cases c : s.1 = 12
    · rw [if_pos c] at e
      rw [e]
      refine ⟨fun _ v7 e7 => ?_, fun z => absurd (by decide) z⟩
      have : v7 = nI ((lad1 s q true).1 - s0) := by
        unfold lad1
        rw [e7, if_pos c]
        exact nI_add _ 0
      rw [this]
      exact go
    · rw [if_neg c] at e
      rw [e, n_le0' (by omega)]
      refine ⟨fun z => by omega, fun _ v9 e9 => ?_⟩
      have : v9 = nI ((lad1 s q true).1 - s0) := by
        unfold lad1
        rw [e9, if_neg c, n_addc]
        show _ = nI (s.1 + 1 - s0)
        rw [show s.1 + 1 - s0 = s.1 - s0 + 1 by omega]
      rw [this]
      exact go
  intro d
  induction d with
  | zero =>
    intro k m s q hk hB hM hC hP hq h0 hf hF
    have s1 : m.1 125 sh = nI n := by rw [(hf 125 sh (by unfold SRm SP SM Sst SLm; omega)).1]; exact h3
    have hF : lad1 s q true = F := hF
    refine gX11_read_35 ?_
    simp (disch := omega) only [n_in, nI_clamp]
    rw [s1]
    simp (disch := omega) only [n_lt, n_le, n_addc]
    refine ⟨by omega, fun z => by omega, fun _ => ⟨fun _ => ?_, fun z => by omega⟩⟩
    have := one k m s q (fun m' v => ∀ v8 : Int32, v8 = nI (k + 1) → Ex E MX11_read (fun v ν => ∃ r : Int32, v = some (.int r) ∧ (r = nI (F.1 - s0) ∧ LM ν F ∧ Fr SRm μ ν)) 35 [(0, .ref 123), (1, .int (nI sh)), (2, .int v), (3, .int v8)] [] m') hB hM hC hP hq (by omega) h0 hf (fun m' hM' hC' hP' hf' v8 e8 => ?_)
    · simp only [n_addc] at this
      exact this
    · rw [e8]
      rw [hF] at hM' ⊢
      refine gX11_read_35 ?_
      simp (disch := omega) only [n_in, nI_clamp]
      rw [(hf' 125 sh (by unfold SRm SP SM Sst SLm; omega)).1, h3]
      simp (disch := omega) only [n_lt]
      exact ⟨by omega, fun _ => ⟨_, rfl, (by first | rfl | trivial), hM', hf'⟩, fun z => by omega⟩
  | succ d ih =>
    intro k m s q hk hB hM hC hP hq h0 hf hF
    have s1 : m.1 125 sh = nI n := by rw [(hf 125 sh (by unfold SRm SP SM Sst SLm; omega)).1]; exact h3
    refine gX11_read_35 ?_
    simp (disch := omega) only [n_in, nI_clamp, n_cmul, nI_add]
    rw [s1]
    simp (disch := omega) only [n_lt, n_le, n_addc]
    refine ⟨by omega, fun z => by omega, fun _ => ⟨fun z => by omega, fun _ => ⟨by omega, Rt.i (cM_letterOf hC _) ?_⟩⟩⟩
    rw [(hf 126 (60 * sh + k) (by unfold SRm SP SM Sst SLm; omega)).1, hit k (by omega), oI_none hg]
    unfold rdf at hF
    generalize hl : lo L.1 (it k) = ol at hF ⊢
    refine ⟨fun z => ?_, fun z => ?_⟩
    · cases ol with
      | some l => cases z
      | none =>
        have hF : rdf L it d (k + 1) (lad1 s q true) p0 = F := hF
        have := one k m s q (fun m' v => ∀ v8 : Int32, v8 = nI (k + 1) → Ex E MX11_read (fun v ν => ∃ r : Int32, v = some (.int r) ∧ (r = nI (F.1 - s0) ∧ LM ν F ∧ Fr SRm μ ν)) 35 [(0, .ref 123), (1, .int (nI sh)), (2, .int v), (3, .int v8)] [] m') hB hM hC hP hq (by omega) h0 hf (fun m' hM' hC' hP' hf' v8 e8 => ?_)
        · simp only [n_addc] at this
          exact this
        · rw [e8]
          exact ih (k + 1) m' (lad1 s q true) p0 (by omega) (lad1_LB hB (hq.up hg (by omega))) hM' hC' hP' p0_ok (Nat.le_trans h0 lad1_le) hf' hF
    · cases ol with
      | none => exact absurd rfl z
      | some l =>
        have hF : rdf L it d (k + 1) s (stA L q l) = F := hF
        have l2 := lo_lt hl
        refine Sp.v (cM_stamp (w := 0) (by decide) hC hP hq (by omega) l2) (fun m22 hm v23 e23 => ?_)
        rw [e23]
        exact ih (k + 1) m22 s _ (by omega) hB (hM.fr hm.2.1 (by unfold Sst; omega) (fun o k _ _ => by unfold Sst; omega)) (hC.frst hm.2.1) hm.1 (stA_ok hq l2) h0 (Fr.tr hf (hm.2.1.up (fun a k q => Or.inl (Or.inr q)))) hF
theorem op_read (h : RC μ tn tb S) (hS : RS μ) (hL : RLi μ s) (x : Int32) : Op E MX10_read MX11_read [.int x] μ (fun ν => (∃ s', RLi ν s') ∧ RS ν ∧ Fr (fun o k => SLi o k ∨ SS o k) μ ν) := by
  have hL0 := hL
  obtain ⟨hB, hC, hM⟩ := hL
  have hg := h.2.1.1
  by_cases c2 : Rg x 0 3
  · obtain ⟨sh, hsh, rfl⟩ := Rg.nat (x := x) (b := 3) c2
    refine Sp.go rfl rfl rfl (gX10_read_0 (Rt.i (cX_isSheet _) ⟨fun _ => Rt.i (cS_isLost (by omega)) ⟨fun z => ?_, fun z => ?_⟩, fun q => absurd c2 (by rw [b2_0] at q; exact q)⟩))
    · rw [b2_0] at z
      rcases hS.2.sp (s := sh) (by omega) with q | ⟨f, n, f2, n60, a1, a2, a3, a4, a5⟩
      · exact absurd q.1 z
      have fe : Fr SRc μ (mI μ 4 1 0) := Fr.I (Or.inl (Or.inl rfl))
      have fe4 : Fr (fun a _ => a = 4) μ (mI μ 4 1 0) := Fr.I rfl
      refine Rt.i (cI_size hC) (Rt.v (cP_empty (by decide)) ?_)
      generalize hF : rdf (LN tn tb) (fun i => (μ.1 (109 + sh) i).toInt) n 0 s p0 = F
      have hFB : LB F := by rw [← hF]; exact rdf_LB hg n 0 s p0 (by omega) hB p0_ok
      have hFl : s.1 ≤ F.1 := by rw [← hF]; exact rdf_le n 0 s p0
      refine (cX_readLoop (f := 0) h (by omega) n60 a3 s.1 F n 0 (mI μ 4 1 0) s p0 (by omega) hB (hC.fr fe4 (by omega) (fun o k _ _ => by omega)) ⟨rde, fun i hi => absurd hi (Nat.not_lt_zero _)⟩ p0_ok fe hF).mono (fun v m ⟨r, e1, e2, hC2, f2⟩ => ⟨r, e1, ?_⟩)
      rw [e2, pk_sub hFl]
      have rm : RC m tn tb S := h.frS f2 (fun o k _ => by unfold SRc SLc; omega) (by unfold SRc SLc; omega)
      refine Sp.go rfl rfl rfl (gX11_read_0 (Rt.i (cM_isSheet _) ⟨fun _ => ?_, fun q => absurd c2 (by rw [b2_0] at q; exact q)⟩))
      simp (disch := omega) only [n_in, nI_clamp]
      rw [(f2 124 sh (by unfold SRc SLc; omega)).1, a2]
      simp (disch := omega) only [n_0le]
      refine ⟨by omega, fun _ => ?_, fun z => absurd trivial z⟩
      refine Sp.v (cM_findPaper (w := 0) (t := 0) (by decide) (by decide) rm) (fun m6 hm6 => ?_)
      rw [show PW (LN tn tb) tn tb 0 = p0 from if_pos (Or.inl rfl)] at hm6
      obtain ⟨hP6, hL6, f6⟩ := hm6
      have fS : Fr SRm m m6 := f6.up (fun _ _ => Or.inl)
      have hM6 : LM m6 s := (hM.fr f2 (by unfold SRc SLc; omega) (fun o k _ _ => by unfold SRc SLc; omega)).fr f6 (by unfold SP SM Sst; omega) (fun o k _ _ => by unfold SP SM Sst; omega)
      have := cM_readLoop (E := E) (μ := m) (L := LN tn tb) (sh := sh) (n := n) hg (by omega) n60 (by rw [(f2 125 sh (by unfold SRc SLc; omega)).1]; exact a4) s.1 (fun i => (μ.1 (109 + sh) i).toInt) (fun i hi => by rw [(f2 126 _ (by unfold SRc SLc; omega)).1, a5 i hi]) F n 0 m6 s p0 (by omega) hB hM6 hL6 hP6 p0_ok (Nat.le_refl _) fS hF
      rw [Nat.sub_self] at this
      refine this.mono (fun v ξ ⟨r2, q1, q2, q3, q4⟩ => ?_)
      have fT : Fr (fun o k => SLi o k ∨ SS o k) μ ξ := Fr.tr (f2.up (fun a k q => Or.inl (q.elim (fun q => SQ_SLi (by unfold SQ; omega)) SLc_SLi))) (q4.up (fun a k q => Or.inl (q.elim SP_SLi SLm_SLi)))
      refine ⟨by rw [q1, q2], ⟨F, hFB, hC2.fr q4 (by unfold SRm SP SM Sst SLm; omega) (fun o k _ _ => by unfold SRm SP SM Sst SLm; omega), q3⟩, ?_, fT⟩
      exact (hS.frL (f2.up (fun a k q => q.elim (fun q => SQ_SLi (by unfold SQ; omega)) SLc_SLi))).frL (q4.up (fun a k q => q.elim SP_SLi SLm_SLi))
    · rw [b2_0, Decidable.not_not] at z
      refine Rt.i (cS_find 1) ⟨_, rfl, ?_⟩
      refine Sp.go rfl rfl rfl (gX11_read_0 (Rt.i (cM_isSheet _) ⟨fun _ => ?_, fun q => absurd c2 (by rw [b2_0] at q; exact q)⟩))
      simp (disch := omega) only [n_in, nI_clamp]
      have e1 : (mI μ 107 3 1).1 124 sh = -1 := by
        have := (hS.2 sh (by omega)).1
        simp only [mI_1]
        grind
      rw [e1]
      have hR := RS_met hS 1
      exact ⟨by omega, fun c => absurd c (by decide), fun _ => Rt.i (cM_met 1) ⟨rfl, ⟨s, hL0.frS hR.2 (by unfold SS; omega) (fun o k _ _ => by unfold SS; omega) (by unfold SS; omega) (fun o k _ _ => by unfold SS; omega)⟩, hR.1, hR.2.up (fun _ _ => Or.inr)⟩⟩
  · have md : Sp E MX11_read [.ref 123, .int x] μ (fun v' ξ => v' = some (.int (-2)) ∧ ((∃ s', RLi ξ s') ∧ RS ξ ∧ Fr (fun o k => SLi o k ∨ SS o k) μ ξ)) :=
      Sp.go rfl rfl rfl (gX11_read_0 (Rt.i (cM_isSheet _) ⟨fun q => absurd (b2_f c2) q, fun _ => ⟨rfl, ⟨s, hL0⟩, hS, Fr.rf⟩⟩))
    exact Sp.go rfl rfl rfl (gX10_read_0 (Rt.i (cX_isSheet _) ⟨fun q => absurd (b2_f c2) q, fun _ => ⟨_, rfl, md⟩⟩))
end READ2
