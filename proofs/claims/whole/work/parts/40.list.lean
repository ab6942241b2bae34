section LISTING
variable {E : EV} {μ ν : Mem} {tn : Nat → Nat} {tb : Nat → Nat → Nat} {S : Nat} {L : LD} {q : PA}
abbrev LZ : Type := Nat × (Nat → PA) × (Nat → Bool)
def pat (q : PA) (p : Nat) : Option Nat := if p < q.1 then some (q.2 p) else none
def LB (s : LZ) : Prop := s.1 ≤ 12 ∧ ∀ k, k < s.1 → Pok 9 60 (s.2.1 k)
def LC (μ : Mem) (s : LZ) : Prop := μ.1 78 4 = nI s.1 ∧ ∀ k, k < s.1 → μ.1 80 k = nI (s.2.1 k).1 ∧ μ.1 81 k = b2 (s.2.2 k = true) ∧ ∀ p, p < 11 → μ.1 79 (11 * k + p) = oI (pat (s.2.1 k) p)
def LM (μ : Mem) (s : LZ) : Prop := μ.1 123 28 = nI s.1 ∧ ∀ k, k < s.1 → μ.1 143 k = nI (s.2.1 k).1 ∧ μ.1 144 k = b2 (s.2.2 k = true) ∧ ∀ p, p < (s.2.1 k).1 → μ.1 142 (60 * k + p) = nI (byO ((s.2.1 k).2 p))
def RLi (μ : Mem) (s : LZ) : Prop := LB s ∧ LC μ s ∧ LM μ s
def lad (s : LZ) (q : PA) (b : Bool) : LZ := (s.1 + 1, up s.2.1 s.1 q, up s.2.2 s.1 b)
def lad1 (s : LZ) (q : PA) (b : Bool) : LZ := if s.1 = 12 then s else lad s q b
def SLi (o k : Nat) : Prop := SQ o k ∨ (78 ≤ o ∧ o ≤ 81) ∨ (142 ≤ o ∧ o ≤ 144) ∨ (o = 123 ∧ k = 28)
def SLc (a k : Nat) : Prop := (a = 78 ∧ k = 4) ∨ (79 ≤ a ∧ a ≤ 81)
def SLm (a k : Nat) : Prop := (a = 123 ∧ k = 28) ∨ (142 ≤ a ∧ a ≤ 144)
variable {s : LZ}
theorem SQ_SLi {o k : Nat} (h : SQ o k) : SLi o k := Or.inl h
theorem SLc_SLi {o k : Nat} (h : SLc o k) : SLi o k := by unfold SLc at h; unfold SLi; omega
theorem SLm_SLi {o k : Nat} (h : SLm o k) : SLi o k := by unfold SLm at h; unfold SLi; omega
theorem RC.frL (h : RC μ tn tb S) (hf : Fr SLi μ ν) : RC ν tn tb S := by
  obtain ⟨h1, h2, h3, h4, h5, h6⟩ := h
  have e : ∀ o k, (o = 1 ∨ o = 2) → ν.1 o k = μ.1 o k := fun o k ho => (hf o k (by unfold SLi SQ; omega)).1
  refine ⟨?_, h2.fr (e _ _ (by omega)) (e _ _ (by omega)) (e _ _ (by omega)) (fun k _ => e _ _ (by omega)), by rw [e _ _ (by omega), h3], h4, by rw [e _ _ (by omega), h5], ?_⟩
  · intro t ht
    obtain ⟨h1, h2, h3, h4, h5⟩ := h1 t ht
    refine ⟨h1, h2, ⟨?_, fun k hk => ?_⟩, ⟨?_, fun k hk => ?_⟩, ?_⟩
    · rw [(hf _ _ (by unfold SLi SQ; omega)).1]; exact h3.1
    · rw [(hf _ _ (by unfold SLi SQ; omega)).1]; exact h3.2 k hk
    · rw [(hf _ _ (by unfold SLi SQ; omega)).1]; exact h4.1
    · rw [(hf _ _ (by unfold SLi SQ; omega)).1]; exact h4.2 k hk
    · rw [(hf _ _ (by unfold SLi SQ; omega)).1]; exact h5
  · rw [(hf 123 13 (by unfold SLi SQ; omega)).1]
    exact h6
theorem LC.fr {T : Nat → Nat → Prop} (h : LC μ s) (hf : Fr T μ ν) (h1 : ¬ T 78 4) (h2 : ∀ o k, 79 ≤ o → o ≤ 81 → ¬ T o k) : LC ν s := by
  refine ⟨by rw [(hf _ _ h1).1]; exact h.1, fun k hk => ?_⟩
  obtain ⟨a, b, c⟩ := h.2 k hk
  exact ⟨by rw [(hf _ _ (h2 _ _ (by omega) (by omega))).1]; exact a, by rw [(hf _ _ (h2 _ _ (by omega) (by omega))).1]; exact b, fun p hp => by rw [(hf _ _ (h2 _ _ (by omega) (by omega))).1]; exact c p hp⟩
theorem LM.fr {T : Nat → Nat → Prop} (h : LM μ s) (hf : Fr T μ ν) (h1 : ¬ T 123 28) (h2 : ∀ o k, 142 ≤ o → o ≤ 144 → ¬ T o k) : LM ν s := by
  refine ⟨by rw [(hf _ _ h1).1]; exact h.1, fun k hk => ?_⟩
  obtain ⟨a, b, c⟩ := h.2 k hk
  exact ⟨by rw [(hf _ _ (h2 _ _ (by omega) (by omega))).1]; exact a, by rw [(hf _ _ (h2 _ _ (by omega) (by omega))).1]; exact b, fun p hp => by rw [(hf _ _ (h2 _ _ (by omega) (by omega))).1]; exact c p hp⟩
theorem RLi.fr (h : RLi μ s) (hf : Fr SQ μ ν) : RLi ν s := ⟨h.1, h.2.1.fr hf (by unfold SQ; omega) (fun o k _ _ => by unfold SQ; omega), h.2.2.fr hf (by unfold SQ; omega) (fun o k _ _ => by unfold SQ; omega)⟩
theorem RS.frS {T : Nat → Nat → Prop} (h : RS μ) (hf : Fr T μ ν) (h1 : ¬ T 107 3) (h2 : ¬ T 123 4) (h3 : ∀ o k, (109 ≤ o ∧ o ≤ 114) ∨ (124 ≤ o ∧ o ≤ 126) → ¬ T o k) : RS ν := by
  refine ⟨by rw [(hf _ _ h1).1, (hf _ _ h2).1]; exact h.1, fun i hi => ?_⟩
  have e : ∀ o k, (109 ≤ o ∧ o ≤ 114) ∨ (124 ≤ o ∧ o ≤ 126) → ν.1 o k = μ.1 o k := fun o k q => (hf _ _ (h3 o k q)).1
  obtain ⟨a, b⟩ := h.2 i hi
  rw [e 114 i (by omega), e 124 i (by omega)]
  refine ⟨a, b.imp (fun q => q) (fun ⟨b1, n, n1, n2, n3, n4⟩ => ⟨b1, n, n1, ?_, ?_, fun j hj => ?_⟩)⟩
  · rw [e _ _ (by omega)]; exact n2
  · rw [e _ _ (by omega)]; exact n3
  · rw [e _ _ (by omega), e _ _ (by omega)]; exact n4 j hj
theorem RS.frL (h : RS μ) (hf : Fr SLi μ ν) : RS ν := h.frS hf (by unfold SLi SQ; omega) (by unfold SLi SQ; omega) (fun o k _ => by unfold SLi SQ; omega)
theorem RS.frQ (h : RS μ) (hf : Fr SQ μ ν) : RS ν := h.frL (hf.up (fun _ _ => SQ_SLi))
theorem lad_LB {b : Bool} (h : LB s) (h12 : s.1 < 12) (hq : Pok 9 60 q) : LB (lad s q b) := by
  refine ⟨by show s.1 + 1 ≤ 12; omega, fun k hk => ?_⟩
  show Pok 9 60 (if k = s.1 then q else s.2.1 k)
  have : k < s.1 + 1 := hk
  split
  · exact hq
  · exact h.2 k (by omega)
theorem lad1_LB {b : Bool} (h : LB s) (hq : Pok 9 60 q) : LB (lad1 s q b) := by
  unfold lad1
  split
  · exact h
  · exact lad_LB h (by have := h.1; omega) hq
theorem cI_isFull (h : LC μ s) (h12 : s.1 ≤ 12) : Rt E MX4_isFull [.ref 78] μ (some (.int (b2 (s.1 = 12)))) μ := by
  refine Sp.go rfl rfl rfl (gX4_isFull_0 ?_)
  rw [h.1]
  simp (disch := omega) only [n_ltc]
  exact ⟨fun z => ⟨by rw [b2_f (by omega)], (by first | rfl | trivial)⟩, fun z => ⟨by rw [b2_t (by omega)], (by first | rfl | trivial)⟩⟩
theorem cI_size (h : LC μ s) : Rt E MX4_size [.ref 78] μ (some (.int (nI s.1))) μ := Sp.go rfl rfl rfl (gX4_size_0 ⟨by rw [h.1], rfl⟩)
theorem cI_append {b : Bool} (hs : LC μ s) (h12 : s.1 < 12) (hP : PCl μ 4 q) (hq : q.1 ≤ 60) : Sp E MX4_append [.ref 78, .ref 4, .int (b2 (b = true))] μ (fun v ν => v = none ∧ (LC ν (lad s q b) ∧ Fr SLc μ ν)) := by
  refine Sp.go rfl rfl rfl (gX4_append_0 (by decide) (Rt.i (cI_isFull hs (by omega)) ⟨fun _ => ?_, fun z => absurd (b2_f (by omega)) z⟩))
  have key : ∀ d k m, k + d = 11 → LC m s → Fr SLc μ m → (∀ p, p < k → m.1 79 (11 * s.1 + p) = oI (pat q p)) → Ex E MX4_append (fun v ν => v = none ∧ (LC ν (lad s q b) ∧ Fr SLc μ ν)) 10 [(0, .ref 78), (1, .ref 4), (2, .int (b2 (b = true))), (3, .int (nI k))] [] m := by
    intro d
    induction d with
    | zero =>
      intro k m hk hc hf hp
      have : k = 11 := by omega
      subst this
      have hP' : PCl m 4 q := hP.fr hf (by unfold SLc; omega) (fun k => by unfold SLc; omega)
      refine gX4_append_10 (by decide) ⟨fun _ => Rt.i (cP_size (by decide)) ?_, fun z => absurd (by decide) z⟩
      rw [hP'.1, hc.1, mI_1, if_neg (by omega), hc.1]
      simp (disch := omega) only [n_in, nI_clamp]
      refine ⟨by omega, by omega, fun v6 e6 => ⟨(by first | rfl | trivial), ?_, ?_⟩⟩
      · rw [mI_1, if_neg (by omega), mI_1, if_neg (by omega), hc.1] at e6
        simp only [n_addc] at e6
        refine ⟨by rw [rde, e6]; rfl, fun k hk => ?_⟩
        have hk : k < s.1 + 1 := hk
        show _ = nI (if k = s.1 then q else s.2.1 k).1 ∧ _ = b2 ((if k = s.1 then b else s.2.2 k) = true) ∧ ∀ p, p < 11 → _ = oI (pat (if k = s.1 then q else s.2.1 k) p)
        simp only [mI_1]
        by_cases e : k = s.1
        · subst e
          refine ⟨by grind, by grind, fun p hp' => ?_⟩
          rw [if_neg (by omega), if_neg (by omega), if_neg (by omega), if_pos rfl]
          exact hp p hp'
        · obtain ⟨c1, c2, c3⟩ := hc.2 k (by omega)
          refine ⟨by grind, by grind, fun p hp' => ?_⟩
          rw [if_neg (by omega), if_neg (by omega), if_neg (by omega), if_neg e]
          exact c3 p hp'
      · exact Fr.tr hf (Fr.tr (Fr.tr (Fr.I (by unfold SLc; omega)) (Fr.I (by unfold SLc; omega))) (Fr.I (by unfold SLc; omega)))
    | succ d ih =>
      intro k m hk hc hf hp
      have hP' : PCl m 4 q := hP.fr hf (by unfold SLc; omega) (fun k => by unfold SLc; omega)
      refine gX4_append_10 (by decide) ?_
      simp (disch := omega) only [n_cle]
      refine ⟨fun z => by omega, fun _ => Rt.i (cP_atP (by decide) hP' hq (by omega)) ?_⟩
      rw [hc.1]
      simp (disch := omega) only [n_mulc, nI_add, n_in, nI_clamp, n_addc]
      refine ⟨by omega, fun v10 e10 => ?_⟩
      rw [e10]
      have e79 : (if k < q.1 then nI (q.2 k) else -1) = oI (pat q k) := by unfold pat; split <;> rfl
      rw [e79]
      have hf' : Fr SLc μ (mI m 79 (s.1 * 11 + k) (oI (pat q k))) := Fr.tr hf (Fr.I (by unfold SLc; omega))
      refine ih (k + 1) _ (by omega) ⟨by rw [mI_1, if_neg (by omega)]; exact hc.1, fun j hj => ?_⟩ hf' (fun p hp' => ?_)
      · obtain ⟨c1, c2, c3⟩ := hc.2 j hj
        simp only [mI_1]
        refine ⟨by grind, by grind, fun p hp' => ?_⟩
        rw [if_neg (by omega)]
        exact c3 p hp'
      · rw [mI_1]
        by_cases e : p = k
        · rw [if_pos ⟨rfl, by omega⟩, e]
        · rw [if_neg (by omega)]
          exact hp p (by omega)
  exact key 11 0 μ rfl hs Fr.rf (fun p hp => by omega)
theorem cM_lists {b : Bool} (hs : LM μ s) (hB : LB s) (hP : PMd μ 0 q) (hq : Pok 9 60 q) : Sp E MX11_lists [.ref 123, .int (b2 (b = true))] μ (fun v ν => ∃ r, v = some (.int r) ∧ (r = (if s.1 = 12 then -4 else nI (s.1 + 1)) ∧ LM ν (lad1 s q b) ∧ Fr SLm μ ν)) := by
  have h12 := hB.1
  refine Sp.go rfl rfl rfl (gX11_lists_0 ?_)
  have h60 := hq.1
  have key : ∀ d k m, k + d = q.1 → s.1 < 12 → LM m s → Fr SLm μ m → (∀ p, p < k → m.1 142 (60 * s.1 + p) = nI (byO (q.2 p))) → Ex E MX11_lists (fun v ν => ∃ r, v = some (.int r) ∧ (r = nI (s.1 + 1) ∧ LM ν (lad s q b) ∧ Fr SLm μ ν)) 14 [(0, .ref 123), (1, .int (b2 (b = true))), (2, .int (nI k))] [] m := by
    intro d
    induction d with
    | zero =>
      intro k m hk h12 hc hf hp
      have : k = q.1 := by omega
      subst this
      have hP' : PMd m 0 q := hP.fr h60 hf (by unfold SLm; omega) (fun k _ _ => by unfold SLm; omega)
      refine gX11_lists_14 ?_
      rw [hP'.1]
      simp (disch := omega) only [n_le]
      refine ⟨fun _ v2 e2 => ?_, fun z => by omega⟩
      rw [e2, hc.1, mI_1, if_neg (by omega), hc.1]
      simp (disch := omega) only [n_in, nI_clamp]
      refine ⟨by omega, by omega, b2_or, fun v6 e6 => ⟨_, rfl, ?_, ?_, ?_⟩⟩
      · rw [rde, e6, mI_1, if_neg (by omega), mI_1, if_neg (by omega), hc.1, n_addc]
      · rw [mI_1, if_neg (by omega), mI_1, if_neg (by omega), hc.1] at e6
        simp only [n_addc] at e6
        refine ⟨by rw [rde, e6]; rfl, fun k hk => ?_⟩
        have hk : k < s.1 + 1 := hk
        show _ = nI (if k = s.1 then q else s.2.1 k).1 ∧ _ = b2 ((if k = s.1 then b else s.2.2 k) = true) ∧ ∀ p, p < (if k = s.1 then q else s.2.1 k).1 → _ = nI (byO ((if k = s.1 then q else s.2.1 k).2 p))
        simp only [mI_1]
        by_cases e : k = s.1
        · subst e
          refine ⟨by grind, by grind, fun p hp' => ?_⟩
          rw [if_pos rfl] at hp'
          rw [if_neg (by omega), if_neg (by omega), if_neg (by omega), if_pos rfl]
          exact hp p hp'
        · obtain ⟨c1, c2, c3⟩ := hc.2 k (by omega)
          refine ⟨by grind, by grind, fun p hp' => ?_⟩
          rw [if_neg e] at hp'
          rw [if_neg (by omega), if_neg (by omega), if_neg (by omega), if_neg e]
          exact c3 p hp'
      · exact Fr.tr hf (Fr.tr (Fr.tr (Fr.I (by unfold SLm; omega)) (Fr.I (by unfold SLm; omega))) (Fr.I (by unfold SLm; omega)))
    | succ d ih =>
      intro k m hk h12 hc hf hp
      have hP' : PMd m 0 q := hP.fr h60 hf (by unfold SLm; omega) (fun k _ _ => by unfold SLm; omega)
      refine gX11_lists_14 ?_
      rw [hP'.1]
      simp (disch := omega) only [n_le, n_in, nI_clamp]
      refine ⟨fun z => by omega, fun _ => ⟨by omega, ?_⟩⟩
      have e5 := hP'.2 k (by omega)
      have hl := hq.2 k (by omega)
      rw [show 60 * 0 + k = k by omega] at e5
      rw [e5]
      refine Rt.i (cM_byteOf (by omega)) ?_
      rw [hc.1]
      simp (disch := omega) only [n_cmul, nI_add, n_in, nI_clamp, n_addc]
      refine ⟨by omega, fun v10 e10 => ?_⟩
      rw [e10]
      have hf' : Fr SLm μ (mI m 142 (60 * s.1 + k) (nI (byO (q.2 k)))) := Fr.tr hf (Fr.I (by unfold SLm; omega))
      refine ih (k + 1) _ (by omega) h12 ⟨by rw [mI_1, if_neg (by omega)]; exact hc.1, fun j hj => ?_⟩ hf' (fun p hp' => ?_)
      · obtain ⟨c1, c2, c3⟩ := hc.2 j hj
        simp only [mI_1]
        have hB1 := (hB.2 j hj).1
        refine ⟨by grind, by grind, fun p hp' => ?_⟩
        rw [if_neg (by omega)]
        exact c3 p hp'
      · rw [mI_1]
        by_cases e : p = k
        · rw [if_pos ⟨rfl, by omega⟩, e]
        · rw [if_neg (by omega)]
          exact hp p (by omega)
  rw [hs.1]
  simp (disch := omega) only [n_eqc]
  unfold lad1
  refine ⟨fun z => ?_, fun z => ⟨_, rfl, ?_⟩⟩
  · have := key q.1 0 μ (by omega) (by omega) hs Fr.rf (fun p hp => by omega)
    rw [if_neg z, if_neg z]
    exact this
  · rw [if_pos z, if_pos z]
    exact ⟨rfl, hs, Fr.rf⟩
end LISTING
