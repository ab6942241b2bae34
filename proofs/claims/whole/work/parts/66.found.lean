section FOUND
variable {E : EV} {μ ν : Mem} {L : LD} {S N : Nat} {B : Nat → Nat} {f t i : Nat} {tn : Nat → Nat} {tb : Nat → Nat → Nat} {p q : PA} {A : Nat → Nat → Prop}
theorem wb8 (w : Nat → Bool) (n : Nat) (h : n ≤ 8) : wb n w < 256 := Nat.lt_of_lt_of_le (wb_lt w n) (Nat.le_trans (Nat.pow_le_pow_right (by decide) h) (by decide))
theorem wb_step {w : Nat → Bool} {n : Nat} (hn : n < 8) : nI (wb n w) ||| (1 <<< (nI n &&& 31)) = nI (wb n w ||| 2 ^ n) := by
  have := wb8 w n (by omega)
  have p2 : 2 ^ n < 256 := Nat.lt_of_lt_of_le (Nat.pow_lt_pow_right (by decide) hn) (by decide)
  rw [b_1shl (by omega), b_or (by omega) (by omega)]
theorem wb_t {w : Nat → Bool} {n : Nat} (h : w n = true) : wb (n + 1) w = wb n w ||| 2 ^ n := by
  show (if w n = true then _ else _) = _
  rw [if_pos h]
theorem wb_f {w : Nat → Bool} {n : Nat} (h : ¬ w n = true) : wb (n + 1) w = wb n w := by
  show (if w n = true then _ else _) = _
  rw [if_neg h]
noncomputable def rch (A : Nat → Nat → Prop) (a : Nat) : Nat := wb 8 (fun t => (dst A a t).isSome)
theorem cD_reachedFrom {d a : Nat} (hd : Dok d) (h : DMs μ d A) (ha : a < 8) : Rt E MX0_reachedFrom [.ref d, .int (nI a)] μ (some (.int (nI (rch A a)))) μ := by
  refine Sp.go rfl rfl rfl (gX0_reachedFrom_0 hd.1 ?_)
  have key : ∀ n k, k + n = 8 → Ex E MX0_reachedFrom (fun v' ν' => v' = some (.int (nI (rch A a))) ∧ ν' = μ) 4 [(0, .ref d), (1, .int (nI a)), (2, .int (nI (wb k (fun t => (dst A a t).isSome)))), (3, .int (nI k))] [] μ := by
    intro n
    induction n with
    | zero =>
      intro k hk
      have : k = 8 := by omega
      subst this
      exact gX0_reachedFrom_4 hd.1 ⟨fun _ => ⟨rfl, rfl⟩, fun z => absurd (by decide) z⟩
    | succ n ih =>
      intro k hk
      refine gX0_reachedFrom_4 hd.1 ?_
      rw [n_cle (by omega) (by decide)]
      refine ⟨fun z => absurd (show 8 ≤ k from z) (by omega), fun _ => Rt.i (cD_between hd ha (by omega)) ?_⟩
      rw [h a k ha (by omega)]
      have m1 : (oI (dst A a k) = -1) = (dst A a k = none) := oI_m1 _ (fun j hj => by have := (dst_8 ha hj).1; omega)
      rw [m1]
      have nx := ih (k + 1) (by omega)
      refine ⟨fun z v5 e5 => ?_, fun z v6 e6 v7 e7 => ?_⟩
      · rw [e5, n_addc]
        rw [wb_f (by rw [z]; decide)] at nx
        exact nx
      · rw [e6, e7, n_addc, wb_step (by omega)]
        rw [wb_t (Option.isSome_iff_ne_none.2 z)] at nx
        exact nx
  exact key 8 0 rfl
def fch (L : LD) (S : Nat) (N : Nat) (B : Nat → Nat) : Prop := ∀ k, k < N → S.testBit (B k / 2) = false ∧ (k ≠ 0 → dst (lA L S) (lE L (B (k - 1))) (lS L (B k)) ≠ none)
theorem rok_fch (hN : 0 < N) : rok L S N B (lS L (B 0)) (lE L (B (N - 1))) (N + 1) ↔ fch L S N B := by
  constructor
  · intro h k hk
    obtain ⟨h1, h2⟩ := h k (by omega)
    refine ⟨h2 hk, fun w => ?_⟩
    unfold rD og gl at h1
    rw [if_neg w, if_pos hk] at h1
    exact h1
  · intro h j hj
    unfold rD og gl
    by_cases c : j < N
    · obtain ⟨h1, h2⟩ := h j c
      refine ⟨?_, fun _ => h1⟩
      rw [if_pos c]
      by_cases z : j = 0
      · rw [if_pos z, z, dst_refl]
        exact fun w => by cases w
      · rw [if_neg z]
        exact h2 z
    · refine ⟨?_, fun w => absurd w c⟩
      have : j = N := by omega
      subst this
      rw [if_neg c, if_neg (by omega), dst_refl]
      exact fun w => by cases w
def fdT (L : LD) (N : Nat) (B : Nat → Nat) (w : Nat) : Nat := if w = 0 then lS L (B 0) else lE L (B (N - 1))
noncomputable def fdV (L : LD) (S N : Nat) (B : Nat → Nat) (w : Nat) : Nat := if N = 0 then 255 else if dB (fch L S N B) = true then rch (lA L S) (fdT L N B w) else 0
theorem cR_isChained (h : RTE μ L S N B) (hN : 0 < N) : Rt E MX6_isChained [.ref 11] μ (some (.int (bI (dB (fch L S N B))))) μ := by
  have hL := h.1.ok
  have h6 := h.2.2.2.2.2
  have b60 := h6.1
  have k0 := h6.2 0 hN
  have k1 := h6.2 (N - 1) (by omega)
  have sb := rsm_le (S := S) (t := lE L (B (N - 1))) hL h6 (hL.2 _ k0).1 (N + 1) (Nat.le_refl _)
  refine Sp.go rfl rfl rfl (gX6_isChained_0 (Rt.i (cR_needAt (i := 0) h hN) (Rt.i (cL_from h.1 k0) ?_)))
  rw [h.2.2.2.1.1, show nI N - 1 = nI (N - 1) from pk_sub (b := 1) (by omega)]
  refine Rt.i (cR_needAt h (by omega)) (Rt.i (cL_to h.1 k1) (Sp.i (cR_gatesBetween h (hL.2 _ k0).1 (hL.2 _ k1).2) (fun r m hm => ?_)))
  rw [rok_fch hN] at hm
  obtain ⟨q1, q2, q3⟩ := hm
  refine ⟨fun z => ⟨?_, q3⟩, fun z => ⟨?_, q3⟩⟩
  · rw [dB_f (fun w => by rw [q1 w] at z; exact ng_m1 (by omega) z)]
    rfl
  · have : fch L S N B := Classical.byContradiction (fun w => z (q2 w))
    rw [dB_t.2 this]
    rfl
theorem cR_ends2 {w : Nat} (h : RTE μ L S N B) {F : Int32 → Mem → Prop} (hw : w < 2) (k : F (nI (fdV L S N B w)) μ) : (¬ nI w = 0 → Sp E MX6_ends [.ref 11] μ (fun v m10 => ∃ r11 : Int32, v = some (.int r11) ∧ F r11 m10)) ∧ (nI w = 0 → Sp E MX6_starts [.ref 11] μ (fun v m12 => ∃ r13 : Int32, v = some (.int r13) ∧ F r13 m12)) := by
  have hL := h.1.ok
  have h6 := h.2.2.2.2.2
  have b60 := h6.1
  rw [n_eq0 (by omega)]
  unfold fdV at k
  refine ⟨fun z => ?_, fun z => ?_⟩
  · refine Sp.go rfl rfl rfl (gX6_ends_0 ?_)
    rw [h.2.2.2.1.1, n_eq0 (by omega)]
    refine ⟨fun z2 => Rt.i (cR_isChained h (by omega)) ?_, fun z2 => ⟨_, rfl, by rw [if_pos z2] at k; exact k⟩⟩
    rw [if_neg z2] at k
    rw [bI_0]
    refine ⟨fun z3 => ⟨_, rfl, by rw [if_neg (by rw [z3]; decide)] at k; exact k⟩, fun z3 => ?_⟩
    rw [if_pos (by simpa using z3)] at k
    have k1 := h6.2 (N - 1) (by omega)
    unfold fdT at k
    rw [if_neg z] at k
    rw [h.2.2.2.1.1, show nI N - 1 = nI (N - 1) from pk_sub (b := 1) (by omega)]
    exact Rt.i (cR_needAt h (by omega)) (Rt.i (cL_to h.1 k1) (Rt.i (cD_reachedFrom Dk12 h.2.2.2.2.1 (hL.2 _ k1).2) ⟨_, rfl, k⟩))
  · refine Sp.go rfl rfl rfl (gX6_starts_0 ?_)
    rw [h.2.2.2.1.1, n_eq0 (by omega)]
    refine ⟨fun z2 => Rt.i (cR_isChained h (by omega)) ?_, fun z2 => ⟨_, rfl, by rw [if_pos z2] at k; exact k⟩⟩
    rw [if_neg z2] at k
    rw [bI_0]
    refine ⟨fun z3 => ⟨_, rfl, by rw [if_neg (by rw [z3]; decide)] at k; exact k⟩, fun z3 => ?_⟩
    rw [if_pos (by simpa using z3)] at k
    have k1 := h6.2 0 (by omega)
    unfold fdT at k
    rw [if_pos z] at k
    exact Rt.i (cR_needAt (i := 0) h (by omega)) (Rt.i (cL_from h.1 k1) (Rt.i (cD_reachedFrom Dk12 h.2.2.2.2.1 (hL.2 _ k1).1) ⟨_, rfl, k⟩))
theorem bt_p0 : btN p0 q = q.1 ∧ ∀ i, btA p0 q i = q.2 i := by
  have a0 : al p0 q = 0 := by have := (al_le p0 q).1; have : p0.1 = 0 := rfl; omega
  refine ⟨?_, fun i => ?_⟩
  · unfold btN
    rw [a0]
    show 0 - 0 + (q.1 - 0) = q.1
    omega
  · unfold btA
    rw [a0, if_neg (by show ¬ i < 0 - 0; omega)]
    have : 0 + (i - (p0.1 - 0)) = i := by
      show 0 + (i - (0 - 0)) = i
      omega
    rw [this]
theorem cX_found {a w : Nat} (h : RC μ tn tb S) (ha : 1 ≤ a ∧ a < 4) (hw : w < 2) : Sp E MX10_found [.ref 0, .int (nI a), .int (nI w)] μ (fun v ν => ∃ r, v = some (.int r) ∧ (r = nI (fdV (LN tn tb) S (PW (LN tn tb) tn tb a).1 (PW (LN tn tb) tn tb a).2 w) ∧ Fr SQ μ ν)) := by
  have hq := h.pok ha.2
  have hS := h.2.2.2.1
  have h01 := x01 hw rfl
  refine Sp.go rfl rfl rfl (gX10_found_0 (Rt.i (cX_isWay _) ⟨fun z => ?_, fun _ => ⟨fun z => absurd z h01.1, fun _ => ⟨fun _ => Rt.v (cP_empty (by decide)) ?_, fun z => absurd h01.2 z⟩⟩⟩))
  · rw [b2_0, Rg.nI (by omega)] at z
    omega
  have f1 : Fr SQ μ (mI μ 4 1 0) := Fr.I (S47_SQ (by omega) 1)
  have h1 := h.fr f1
  refine Sp.v (cX_stampWay h1 (Or.inr (Or.inl rfl)) ha.2) (fun m7 h7 => ?_)
  have P7 : PCl m7 4 p0 := ⟨by rw [(h7.2 _ _ (by omega)).1, rde]; rfl, fun i hi => absurd hi (Nat.not_lt_zero i)⟩
  have f7 : Fr SQ μ m7 := Fr.tr f1 (h7.2.up (fun o k w => S47_SQ (by omega) k))
  have h7' := h.fr f7
  have Q7 := h7.1
  generalize PW (LN tn tb) tn tb a = q at hq Q7 ⊢
  have ok0 : Pok (LN tn tb).1 30 p0 := ⟨Nat.zero_le _, fun i hi => absurd hi (Nat.not_lt_zero i)⟩
  refine Sp.v (cR_plan h7' P7 Q7 ok0 hq) (fun m8 h8 => ?_)
  have f8 : Fr SQ μ m8 := Fr.tr f7 (h8.2.2.up (fun _ _ => SRt_SQ))
  have h8' := h.fr f8
  obtain ⟨b1, b2⟩ := bt_p0 (q := q)
  have b2 : btA p0 q = q.2 := funext b2
  have rte : RTE m8 (LN tn tb) S q.1 q.2 := ⟨h8'.2.1, hS, h8'.2.2.2.2.1, by rw [← b1, ← b2]; exact h8.1, h8.2.1, by rw [← b1, ← b2]; exact Bok_bt ok0 hq⟩
  exact cR_ends2 rte hw ⟨_, rfl, rfl, f8⟩
theorem or0 {b : Nat} (h : b < 2 ^ 31) : nI b ||| 0 = nI b := by
  rw [show (0 : Int32) = nI 0 from rfl, b_or (by omega) (by omega), Nat.or_zero]
theorem cM_foundOf {a w : Nat} (h : RC μ tn tb S) (ha : 1 ≤ a ∧ a < 4) (hw : w < 2) : Sp E MX11_foundOf [.ref 123, .int (nI a), .int (nI w)] μ (fun v ν => ∃ r, v = some (.int r) ∧ (r = nI (fdV (LN tn tb) S (PW (LN tn tb) tn tb a).1 (PW (LN tn tb) tn tb a).2 w) ∧ Fr SQ μ ν)) := by
  have hq := h.pok ha.2
  have hS := h.2.2.2.1
  refine Sp.go rfl rfl rfl (gX11_foundOf_0 (Sp.v (cM_findPaper (w := 0) (by decide) ha.2 h) (fun m1 h1 => ?_)))
  have f1 : Fr SQ μ m1 := h1.2.2.up (fun _ _ => SP_up)
  refine Sp.v (cM_findUnseen h1.2.1 hS (h.fr f1).2.2.2.2.2) (fun m h2 v3 e3 => ?_)
  have F : Fr SQ μ m := Fr.tr f1 (h2.2.up (fun _ _ => S156_SQ))
  have M : ML m (LN tn tb) := h1.2.1.frS h2.2 (by unfold S156; omega) (by unfold S156; omega) (fun k => by unfold S156; omega)
  have P := h1.1.fr (by have := hq.1; omega) h2.2 (by unfold S156; omega) (fun k _ _ => by unfold S156; omega)
  have s13 := (h.fr F).2.2.2.2.2
  have U := h2.1
  clear h1 h2 f1
  generalize PW (LN tn tb) tn tb a = q at hq P ⊢
  generalize LN tn tb = L at *
  have hL := M.ok
  have h9 := hL.1
  have q30 := hq.1
  have rd : ∀ k, k < q.1 → m.1 133 k = nI (q.2 k) := fun k hk => by
    have := P.2 k hk
    rw [show 60 * 0 + k = k by omega] at this
    exact this
  rw [P.1] at e3
  subst e3
  rw [n_eq0 (by omega)]
  have bits : ∀ (c : Bool) (T : Nat), T < 8 → (0 < q.1) → (c = true ↔ fch L S q.1 q.2) → T = fdT L q.1 q.2 w → ∀ n k, k + n = 8 → Ex E MX11_foundOf (fun v ν => ∃ r, v = some (.int r) ∧ (r = nI (fdV L S q.1 q.2 w) ∧ Fr SQ μ ν)) 152 [(0, .ref 123), (1, .int (nI a)), (2, .int (nI w)), (3, .int (nI q.1)), (4, .int (bI c)), (5, .int (nI T)), (6, .int (nI (if c = true then wb k (fun t => (dst (lA L S) T t).isSome) else 0))), (7, .int (nI k))] [] m := by
    intro c T T8 hN hc hT n
    induction n with
    | zero =>
      intro k hk
      have : k = 8 := by omega
      subst this
      refine gX11_foundOf_152 ⟨fun _ => ⟨_, rfl, ?_, F⟩, fun z => absurd (by decide) z⟩
      have n0 : ¬ q.1 = 0 := by omega
      unfold fdV
      simp only [if_neg n0]
      cases c with
      | true =>
        simp only [dB_t.2 (hc.1 rfl), if_true, ← hT]
        rfl
      | false =>
        have e : dB (fch L S q.1 q.2) = false := dB_f (fun w => by have := hc.2 w; cases this)
        simp [e]
    | succ n ih =>
      intro k hk
      have nx := ih (k + 1) (by omega)
      refine gX11_foundOf_152 ?_
      rw [n_cle (by omega) (by decide), bI_0]
      refine ⟨fun z => absurd (show 8 ≤ k from z) (by omega), fun _ => ⟨fun z v3 e3 v4 e4 => ?_, fun z => ?_⟩⟩
      · rw [e3, e4, n_addc]
        subst z
        rw [if_neg (by decide)] at nx ⊢
        exact nx
      · have z : c = true := by simpa using z
        subst z
        rw [if_pos rfl] at nx ⊢
        simp (disch := omega) only [n_cmul, nI_add, n_in, nI_clamp]
        rw [(U T T8 k (by omega)).1, n_cle (by have := dst_g (A := lA L S) (b := k) T8; omega) (by decide)]
        have kk := dst_k (A := lA L S) (b := k) T8
        refine ⟨by omega, fun z2 v7 e7 v8 e8 => ?_, fun z2 v9 e9 v10 e10 => ?_⟩
        · have z2 : dst (lA L S) T k = none := kk ▸ z2
          have := wb8 (fun t => (dst (lA L S) T t).isSome) k (by omega)
          rw [e7, e8, n_addc, or0 (by omega)]
          rw [wb_f (by rw [z2]; decide)] at nx
          exact nx
        · have z2 : ¬ dst (lA L S) T k = none := kk ▸ z2
          rw [e9, e10, n_addc, wb_step (by omega)]
          rw [wb_t (Option.isSome_iff_ne_none.2 z2)] at nx
          exact nx
  refine ⟨fun hN => ?_, fun hN => ⟨_, rfl, by unfold fdV; rw [if_pos hN]; rfl, F⟩⟩
  have key : ∀ n k (c : Bool), k + n = q.1 → (c = true ↔ ∀ j, j < k → S.testBit (q.2 j / 2) = false ∧ (j ≠ 0 → dst (lA L S) (lE L (q.2 (j - 1))) (lS L (q.2 j)) ≠ none)) → Ex E MX11_foundOf (fun v ν => ∃ r, v = some (.int r) ∧ (r = nI (fdV L S q.1 q.2 w) ∧ Fr SQ μ ν)) 31 [(0, .ref 123), (1, .int (nI a)), (2, .int (nI w)), (3, .int (nI q.1)), (4, .int (bI c)), (5, .int (nI k))] [] m := by
    intro n
    induction n with
    | zero =>
      intro k c hk hc
      have : k = q.1 := by omega
      subst this
      refine gX11_foundOf_31 ?_
      rw [n_le (by omega) (by omega), n_eq0 (by omega)]
      refine ⟨fun _ => ⟨fun z => ?_, fun z => ?_⟩, fun z => absurd (Nat.le_refl _) z⟩
      · rw [show nI q.1 - 1 = nI (q.1 - 1) from pk_sub (b := 1) (by omega)]
        simp (disch := omega) only [n_in, nI_clamp]
        rw [rd _ (by omega)]
        have kl := hq.2 (q.1 - 1) (by omega)
        refine ⟨by omega, Rt.i (cM_end M kl) ?_⟩
        have := bits c _ (hL.2 _ kl).2 (by omega) hc (by unfold fdT; rw [if_neg z]) 8 0 rfl
        rw [show (if c = true then wb 0 (fun t => (dst (lA L S) (lE L (q.2 (q.1 - 1))) t).isSome) else 0) = 0 by split <;> rfl] at this
        exact this
      · rw [rd 0 (by omega)]
        have kl := hq.2 0 (by omega)
        refine Rt.i (cM_start M kl) ?_
        have := bits c _ (hL.2 _ kl).1 (by omega) hc (by unfold fdT; rw [if_pos z]) 8 0 rfl
        rw [show (if c = true then wb 0 (fun t => (dst (lA L S) (lS L (q.2 0)) t).isSome) else 0) = 0 by split <;> rfl] at this
        exact this
    | succ n ih =>
      intro k c hk hc
      have kl := hq.2 k (by omega)
      have bad : (¬ ∀ j, j < k + 1 → S.testBit (q.2 j / 2) = false ∧ (j ≠ 0 → dst (lA L S) (lE L (q.2 (j - 1))) (lS L (q.2 j)) ≠ none)) → ∀ v : Int32, v = nI k + 1 → Ex E MX11_foundOf (fun v ν => ∃ r, v = some (.int r) ∧ (r = nI (fdV L S q.1 q.2 w) ∧ Fr SQ μ ν)) 31 [(0, .ref 123), (1, .int (nI a)), (2, .int (nI w)), (3, .int (nI q.1)), (4, .int 0), (5, .int v)] [] m := by
        intro hn v hv
        rw [hv, n_addc]
        exact ih (k + 1) false (by omega) ⟨fun w => (by cases w), fun w => absurd w hn⟩
      have good : c = true → S.testBit (q.2 k / 2) = false → (k ≠ 0 → dst (lA L S) (lE L (q.2 (k - 1))) (lS L (q.2 k)) ≠ none) → ∀ v : Int32, v = nI k + 1 → Ex E MX11_foundOf (fun v ν => ∃ r, v = some (.int r) ∧ (r = nI (fdV L S q.1 q.2 w) ∧ Fr SQ μ ν)) 31 [(0, .ref 123), (1, .int (nI a)), (2, .int (nI w)), (3, .int (nI q.1)), (4, .int 1), (5, .int v)] [] m := by
        intro h1 h2 h3 v hv
        rw [hv, n_addc]
        refine ih (k + 1) true (by omega) ⟨fun _ j hj => ?_, fun _ => rfl⟩
        by_cases e : j = k
        · subst e; exact ⟨h2, h3⟩
        · exact hc.1 h1 j (by omega)
      refine gX11_foundOf_31 ?_
      rw [n_le (by omega) (by omega), bI_0, n_eq0 (show k < 2 ^ 31 by omega)]
      refine ⟨fun z => by omega, fun _ => ⟨fun z => bad (fun w => ?_), fun z => ?_⟩⟩
      · have := hc.2 (fun j hj => w j (by omega))
        rw [z] at this
        cases this
      have z : c = true := by simpa using z
      simp (disch := omega) only [n_in, nI_clamp]
      rw [rd k (by omega), n_divc (by omega) (by decide) (by decide)]
      refine ⟨by omega, Rt.i (cM_isShut hS s13 (by omega)) ?_⟩
      rw [b2_0]
      refine ⟨fun z2 => bad (fun w => ?_), fun z2 => ?_⟩
      · rw [(w k (by omega)).1] at z2
        exact z2 (fun w => by cases w)
      have z2 : S.testBit (q.2 k / 2) = false := by simpa using z2
      refine ⟨fun z3 => good z z2 (fun w => absurd z3 w), fun z3 => ?_⟩
      rw [show nI k - 1 = nI (k - 1) from pk_sub (b := 1) (by omega)]
      simp (disch := omega) only [n_in, nI_clamp]
      rw [rd (k - 1) (by omega)]
      have kl1 := hq.2 (k - 1) (by omega)
      refine ⟨by omega, Rt.i (cM_end M kl1) ?_⟩
      rw [rd k (by omega)]
      refine Rt.i (cM_start M kl) ?_
      have e8 := (hL.2 _ kl1).2
      have s8 := (hL.2 _ kl).1
      simp (disch := omega) only [n_cmul, nI_add, n_in, nI_clamp]
      rw [(U _ e8 _ s8).1, n_cle (by have := dst_g (A := lA L S) (b := lS L (q.2 k)) e8; omega) (by decide)]
      have kk := dst_k (A := lA L S) (b := lS L (q.2 k)) e8
      refine ⟨by omega, fun z4 => bad (fun w => (w k (by omega)).2 z3 (kk ▸ z4)), fun z4 => good z z2 (fun _ w => z4 (by rw [kk]; exact w))⟩
  exact key q.1 0 true (by omega) ⟨fun _ j hj => by omega, fun _ => rfl⟩
theorem op_found (h : RC μ tn tb S) (x y : Int32) : Op E MX10_found MX11_found [.int x, .int y] μ (fun ν => Fr SQ μ ν) := by
  by_cases c : Rg x 1 3
  · have okC : ¬ b2 (Rg x 1 3) = 0 := by rw [b2_0]; exact fun w => w c
    by_cases c2 : Rg y 0 1
    · obtain ⟨a, ha, rfl⟩ := Rg.nat (x := x) (b := 3) ⟨by have := c.1; omega, c.2⟩
      obtain ⟨w, hw, rfl⟩ := rg01n c2
      have ha' : 1 ≤ a ∧ a < 4 := by rw [Rg.nI (by omega)] at c; omega
      refine Sp.i (cX_found h ha' hw) (fun r m hm => ?_)
      refine Sp.go rfl rfl rfl (gX11_found_0 (Rt.i (cM_isWay _) ⟨fun z => absurd z okC, fun _ => Rt.i (cM_isTwo _) ⟨fun z => absurd c2 (by rw [b2_0] at z; exact z), fun _ => ?_⟩⟩))
      exact Sp.i (cM_foundOf (h.fr hm.2) ha' hw) (fun r2 m2 hm2 => ⟨by rw [hm2.1, hm.1], Fr.tr hm.2 hm2.2⟩)
    · have bad : Sp E MX11_found [.ref 123, .int x, .int y] μ (fun v' ξ => v' = some (.int (-2)) ∧ Fr SQ μ ξ) :=
        Sp.go rfl rfl rfl (gX11_found_0 (Rt.i (cM_isWay _) ⟨fun z => absurd z okC, fun _ => Rt.i (cM_isTwo _) ⟨fun _ => ⟨rfl, Fr.rf⟩, fun z => absurd (b2_f c2) z⟩⟩))
      refine Sp.go rfl rfl rfl (gX10_found_0 (Rt.i (cX_isWay _) ⟨fun z => absurd z okC, fun _ => ⟨fun z => ⟨_, rfl, bad⟩, fun z => ⟨fun z2 => ?_, fun z2 => ⟨_, rfl, bad⟩⟩⟩⟩))
      rcases rg01' c2 with w | w
      · exact absurd w z
      · exact absurd z2 w
  · refine Sp.go rfl rfl rfl (gX10_found_0 (Rt.i (cX_isWay _) ⟨fun z => ⟨_, rfl, ?_⟩, fun z => absurd (b2_f c) z⟩))
    exact Sp.go rfl rfl rfl (gX11_found_0 (Rt.i (cM_isWay _) ⟨fun _ => ⟨rfl, Fr.rf⟩, fun z => absurd (b2_f c) z⟩))
end FOUND
