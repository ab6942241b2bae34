/-! the least lane letter towards a town -/
def gdL (L : LD) (S c e k l : Nat) : Prop := l < 2 * L.1 ∧ lU L S l = true ∧ lS L l = c ∧ dst (lA L S) (lE L l) e = some k
def isL (L : LD) (S c e k l : Nat) : Prop := gdL L S c e k l ∧ ∀ m, gdL L S c e k m → byO l ≤ byO m
theorem byO_iN : ∀ a, a < 18 → ∀ b, b < 18 → byO a = byO b → a = b := by decide
theorem isL_un {L : LD} {S c e k l m : Nat} (h9 : L.1 ≤ 9) (h1 : isL L S c e k l) (h2 : isL L S c e k m) : l = m := by
  have a := h1.2 m h2.1
  have b := h2.2 l h1.1
  exact byO_iN l (by have := h1.1.1; omega) m (by have := h2.1.1; omega) (by omega)
theorem lA_sym {L : LD} {S a b : Nat} (h : lA L S a b) : lA L S b a := by
  obtain ⟨l, l1, l2, l3, l4⟩ := h
  refine ⟨bk l, bk_lt l1, ?_, l4, ?_⟩
  · have : bk l / 2 = l / 2 := by unfold bk; split <;> omega
    rw [this]; exact l2
  · unfold lE
    rw [bk_bk]
    exact l3
theorem gdL_ex {L : LD} {S c e k : Nat} (hc : c < 8) (he : e < 8) (h : dst (lA L S) c e = some (k + 1)) : ∃ l, gdL L S c e k l := by
  rw [dst_sym (fun a b => lA_sym) hc he] at h
  obtain ⟨d, d1, d2, d3⟩ := dst_pre k c h
  obtain ⟨l, l1, l2, l3, l4⟩ := lA_sym d3
  refine ⟨l, l1, lU_p.2 l2, l3, ?_⟩
  rw [l4, dst_sym (fun a b => lA_sym) d1 he]
  exact d2
noncomputable def nlL (L : LD) (S c e k : Nat) : Nat := @dite _ (∃ l, isL L S c e k l) (Classical.propDecidable _) (fun h => Classical.choose h) (fun _ => 0)
theorem nlL_eq {L : LD} {S c e k l : Nat} (h9 : L.1 ≤ 9) (h : isL L S c e k l) : nlL L S c e k = l := by
  unfold nlL
  split
  · rename_i w
    exact isL_un h9 (Classical.choose_spec w) h
  · rename_i w
    exact absurd ⟨l, h⟩ w
theorem byO_lT {l : Nat} (h : l < 18) : byO l < 128 := by unfold byO; split <;> omega
section LEAST
variable {E : EV} {μ ν : Mem} {L : LD} {S N : Nat} {B : Nat → Nat} {f t i c e k : Nat}
theorem cR_leastNearer (h : RTE μ L S N B) (hc : c < 8) (he : e < 8) (hd : dst (lA L S) c e = some (k + 1)) : Rt E MX6_leastNearer [.ref 11, .int (nI c), .int (nI e)] μ (some (.int (nI (nlL L S c e k)))) μ := by
  have hL := h.1.ok
  have h9 := hL.1
  have k8 := (dst_8 hc hd).1
  obtain ⟨l0, g0⟩ := gdL_ex hc he hd
  have eqs : ∀ c n, c < 8 → n < 100 → ((oI (dst (lA L S) c e) = nI n) ↔ dst (lA L S) c e = some n) := by
    intro c n hc hn
    have : (oI (dst (lA L S) c e) = oI (some n)) = (dst (lA L S) c e = some n) := oI_inj (fun m hm => by have := (dst_8 hc hm).1; omega) (fun m hm => by cases hm; omega)
    exact this ▸ Iff.rfl
  refine Sp.go rfl rfl rfl (gX6_leastNearer_0 (Rt.i (cD_between Dk12 hc he) (fun v3 e3 => ?_)))
  rw [h.2.2.2.2.1 _ _ hc he, hd] at e3
  have e3 : v3 = nI (k + 1) - 1 := e3
  rw [show nI (k + 1) - 1 = nI k from pk_sub (a := k + 1) (b := 1) (by omega)] at e3
  subst e3
  have scan : ∀ (g : Nat) (hg : g < 2) (fin : (∀ l, gdL L S c e k l → ¬ l % 2 = g) → ∀ v : Int32, v = nI g + (-1) → Ex E MX6_leastNearer (fun v' ν' => v' = some (.int (nI (nlL L S c e k))) ∧ ν' = μ) 15 [(0, .ref 11), (1, .int (nI c)), (2, .int (nI e)), (3, .int (nI k)), (4, .int v)] [] μ) (lst : ∀ l, gdL L S c e k l → l % 2 = g → (∀ m, gdL L S c e k m → m % 2 = g → l ≤ m) → isL L S c e k l), ∀ d l, 18 ≤ l + 2 * d → l < 20 → l % 2 = g → (∀ m, gdL L S c e k m → m % 2 = g → l ≤ m) → Ex E MX6_leastNearer (fun v' ν' => v' = some (.int (nI (nlL L S c e k))) ∧ ν' = μ) 24 [(0, .ref 11), (1, .int (nI c)), (2, .int (nI e)), (3, .int (nI k)), (4, .int (nI g)), (5, .int (nI l))] [] μ := by
    intro g hg fin lst d
    induction d with
    | zero =>
      intro l hl l20 hm hn
      refine gX6_leastNearer_24 (Rt.i (cL_letters h.1) ?_)
      rw [n_le (by omega) (by omega)]
      refine ⟨fun _ => fin (fun m gm w => ?_), fun z => by omega⟩
      have := hn m gm w
      have := gm.1
      omega
    | succ d ih =>
      intro l hl l20 hm hn
      refine gX6_leastNearer_24 (Rt.i (cL_letters h.1) ?_)
      rw [n_le (by omega) (by omega)]
      refine ⟨fun z => fin (fun m gm w => ?_), fun z => ?_⟩
      · have := hn m gm w
        have := gm.1
        omega
      have l2 : l < 2 * L.1 := by omega
      have skip : ¬ gdL L S c e k l → ∀ v : Int32, v = nI l + 2 → Ex E MX6_leastNearer (fun v' ν' => v' = some (.int (nI (nlL L S c e k))) ∧ ν' = μ) 24 [(0, .ref 11), (1, .int (nI c)), (2, .int (nI e)), (3, .int (nI k)), (4, .int (nI g)), (5, .int v)] [] μ := by
        intro ng v ev
        rw [ev, n_addc]
        refine ih (l + 2) (by omega) (by omega) (by omega) (fun m gm w => ?_)
        have := hn m gm w
        by_cases q : m = l
        · subst q; exact absurd gm ng
        · omega
      obtain ⟨s8, e8⟩ := hL.2 l l2
      refine Rt.i (cR_isLane h l2) ?_
      rw [b2_0]
      refine ⟨fun z1 => skip (fun w => z1 w.2.1), fun z1 => Rt.i (cL_from h.1 l2) ?_⟩
      rw [n_eq (by omega) (by omega)]
      refine ⟨fun z2 => skip (fun w => z2 w.2.2.1), fun z2 => Rt.i (cL_to h.1 l2) (Rt.i (cD_between Dk12 e8 he) ?_)⟩
      rw [h.2.2.2.2.1 _ _ e8 he, eqs _ _ e8 (by omega)]
      refine ⟨fun z3 => skip (fun w => z3 w.2.2.2), fun z3 => ⟨?_, rfl⟩⟩
      rw [nlL_eq h9 (lst l ⟨l2, Decidable.not_not.1 z1, z2, z3⟩ hm hn)]
  refine gX6_leastNearer_15 ⟨fun z => absurd z (by decide), fun _ => scan 1 (by omega) (fun no1 v ev => ?_) (fun l gl hl hm => ⟨gl, fun m gm => ?_⟩) 9 1 (by omega) (by omega) rfl (fun m gm w => by omega)⟩
  · have ev : v = nI 0 := ev
    subst ev
    refine gX6_leastNearer_15 ⟨fun z => absurd z (by decide), fun _ => scan 0 (by omega) (fun no0 v ev => ?_) (fun l gl hl hm => ⟨gl, fun m gm => ?_⟩) 9 0 (by omega) (by omega) rfl (fun m gm w => by omega)⟩
    · exfalso
      have := no1 l0 g0
      have := no0 l0 g0
      omega
    · have := no1 m gm
      have := hm m gm (by omega)
      have := gm.1
      unfold byO
      rw [if_pos hl, if_pos (by omega)]
      omega
  · have := gm.1
    have := gl.1
    unfold byO
    rw [if_neg (by omega)]
    by_cases q : m % 2 = 0
    · rw [if_pos q]; omega
    · rw [if_neg q]
      have := hm m gm (by omega)
      omega
theorem cM_leastUnseen (hC : ML μ L) (hS : S < 512) (h13 : μ.1 123 13 = nI S) (hU : UN μ L S) (hc : c < 8) (he : e < 8) (hd : dst (lA L S) c e = some (k + 1)) : Rt E MX11_leastUnseen [.ref 123, .int (nI c), .int (nI e)] μ (some (.int (nI (nlL L S c e k)))) μ := by
  have hL := hC.ok
  have h9 := hL.1
  have k8 := (dst_8 hc hd).1
  obtain ⟨l0, g0⟩ := gdL_ex hc he hd
  refine Sp.go rfl rfl rfl (gX11_leastUnseen_0 ?_)
  have key : ∀ d l (o : Option Nat), l + d = 2 * L.1 → (o = none → ∀ m, gdL L S c e k m → l ≤ m) → (∀ b, o = some b → gdL L S c e k b ∧ ∀ m, gdL L S c e k m → m < l → byO b ≤ byO m) → Ex E MX11_leastUnseen (fun v' ν' => v' = some (.int (nI (nlL L S c e k))) ∧ ν' = μ) 5 [(0, .ref 123), (1, .int (nI c)), (2, .int (nI e)), (3, .int (oI o)), (4, .int (nI l))] [] μ := by
    intro d
    induction d with
    | zero =>
      intro l o hl h1 h2
      refine gX11_leastUnseen_5 ?_
      rw [hC.2.2.2.1, n_cmul, n_le (by omega) (by omega)]
      refine ⟨fun _ => ⟨?_, rfl⟩, fun z => by omega⟩
      cases o with
      | none =>
        have := h1 rfl l0 g0
        have := g0.1
        omega
      | some b =>
        obtain ⟨q1, q2⟩ := h2 b rfl
        rw [nlL_eq h9 ⟨q1, fun m gm => q2 m gm (by have := gm.1; omega)⟩]
        rfl
    | succ d ih =>
      intro l o hl h1 h2
      have l2 : l < 2 * L.1 := by omega
      obtain ⟨s8, e8⟩ := hL.2 l l2
      refine gX11_leastUnseen_5 ?_
      rw [hC.2.2.2.1, n_cmul, n_le (by omega) (by omega)]
      have skip : ¬ gdL L S c e k l → ∀ v : Int32, v = nI l + 1 → Ex E MX11_leastUnseen (fun v' ν' => v' = some (.int (nI (nlL L S c e k))) ∧ ν' = μ) 5 [(0, .ref 123), (1, .int (nI c)), (2, .int (nI e)), (3, .int (oI o)), (4, .int v)] [] μ := by
        intro ng v ev
        rw [ev, n_addc]
        refine ih (l + 1) o (by omega) (fun w m gm => ?_) (fun b hb => ⟨(h2 b hb).1, fun m gm hm => (h2 b hb).2 m gm ?_⟩)
        · have := h1 w m gm
          by_cases q : m = l
          · subst q; exact absurd gm ng
          · omega
        · by_cases q : m = l
          · subst q; exact absurd gm ng
          · omega
      have take : gdL L S c e k l → (∀ b, o = some b → byO l < byO b) → ∀ v : Int32, v = nI l + 1 → Ex E MX11_leastUnseen (fun v' ν' => v' = some (.int (nI (nlL L S c e k))) ∧ ν' = μ) 5 [(0, .ref 123), (1, .int (nI c)), (2, .int (nI e)), (3, .int (nI l)), (4, .int v)] [] μ := by
        intro gl hb v ev
        rw [ev, n_addc]
        refine ih (l + 1) (some l) (by omega) (fun w => by cases w) (fun b eb => ?_)
        cases eb
        refine ⟨gl, fun m gm hm => ?_⟩
        by_cases q : m = l
        · subst q; exact Nat.le_refl _
        · cases o with
          | none =>
            have := h1 rfl m gm
            omega
          | some b =>
            have := hb b rfl
            have := (h2 b rfl).2 m gm (by omega)
            omega
      refine ⟨fun z => by omega, fun _ => Rt.i (cM_isUnseen hC hS h13 l2) ?_⟩
      rw [b2_0]
      refine ⟨fun z1 => skip (fun w => z1 w.2.1), fun z1 => Rt.i (cM_start hC l2) ?_⟩
      rw [n_eq (by omega) (by omega)]
      refine ⟨fun z2 => skip (fun w => z2 w.2.2.1), fun z2 => Rt.i (cM_end hC l2) ?_⟩
      simp (disch := omega) only [n_cmul, nI_add, n_in, nI_clamp]
      rw [(hU _ e8 e he).1, (hU _ hc e he).1, hd]
      have gg := dst_g (A := lA L S) (b := e) e8
      have gk : (nI ((dst (lA L S) (lE L l) e).getD 1000) = nI ((some (k + 1)).getD 1000) - 1) = (dst (lA L S) (lE L l) e = some k) := by
        show (_ = nI (k + 1) - 1) = _
        rw [show nI (k + 1) - 1 = nI k from pk_sub (a := k + 1) (b := 1) (by omega), n_eq (by omega) (by omega)]
        cases q : dst (lA L S) (lE L l) e with
        | none => exact propext ⟨fun w => by have w : 1000 = k := w; omega, fun w => by cases w⟩
        | some j => exact propext ⟨fun w => by have w : j = k := w; rw [w], fun w => by cases w; rfl⟩
      rw [gk]
      refine ⟨by omega, by omega, fun z3 => skip (fun w => z3 w.2.2.2), fun z3 => ?_⟩
      have gl : gdL L S c e k l := ⟨l2, Decidable.not_not.1 z1, z2, z3⟩
      cases o with
      | none => exact ⟨fun _ => take gl (fun b w => by cases w), fun z4 => absurd rfl z4⟩
      | some b =>
        have b2 := (h2 b rfl).1.1
        have bl := byO_lT (l := l) (by omega)
        have bb := byO_lT (l := b) (by omega)
        refine ⟨fun z4 => absurd z4 (ng_m1 (by omega)), fun z4 => Rt.i (cM_byteOf (by omega)) (Rt.i (cM_byteOf (l := b) (by omega)) ?_)⟩
        rw [n_le (by omega) (by omega)]
        refine ⟨fun z5 v ev => ?_, fun z5 => take gl (fun b' w => by cases w; omega)⟩
        rw [ev, n_addc]
        refine ih (l + 1) (some b) (by omega) (fun w => by cases w) (fun b' eb => ?_)
        cases eb
        refine ⟨(h2 b rfl).1, fun m gm hm => ?_⟩
        by_cases q : m = l
        · subst q; exact z5
        · exact (h2 b rfl).2 m gm (by omega)
  exact key (2 * L.1) 0 none (by omega) (fun _ m gm => by omega) (fun b w => by cases w)
end LEAST
