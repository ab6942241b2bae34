section WITHOUT
variable {E : EV} {μ ν : Mem} {L : LD} {S : Nat} {tn : Nat → Nat} {tb : Nat → Nat → Nat} {A B : Nat → Nat → Prop}
def unC (R T : Nat → Nat → Option Nat) : Nat → Nat
  | 0 => 0
  | k + 1 => if k / 8 < k % 8 ∧ ¬ R (k / 8) (k % 8) = T (k / 8) (k % 8) then unC R T k + 1 else unC R T k
def unD (x y : Option Nat) (m : Nat) : Nat := match x, y with
  | some p, some q => max m ((p - q) + (q - p))
  | _, _ => m
def unM (R T : Nat → Nat → Option Nat) : Nat → Nat
  | 0 => 0
  | k + 1 => if k / 8 < k % 8 then unD (R (k / 8) (k % 8)) (T (k / 8) (k % 8)) (unM R T k) else unM R T k
theorem unC_le (R T : Nat → Nat → Option Nat) : ∀ k, unC R T k ≤ k
  | 0 => Nat.le_refl 0
  | k + 1 => by
    have := unC_le R T k
    unfold unC
    split <;> omega
theorem unC_skip {R T : Nat → Nat → Option Nat} {a : Nat} (ha : a < 8) : ∀ j, j ≤ a + 1 → j ≤ 8 → unC R T (8 * a + j) = unC R T (8 * a)
  | 0, _, _ => rfl
  | j + 1, h, h8 => by
    rw [← unC_skip ha j (by omega) (by omega), show 8 * a + (j + 1) = (8 * a + j) + 1 by omega]
    show (if (8 * a + j) / 8 < (8 * a + j) % 8 ∧ _ then _ else _) = _
    rw [if_neg (fun w => by omega)]
theorem unM_skip {R T : Nat → Nat → Option Nat} {a : Nat} (ha : a < 8) : ∀ j, j ≤ a + 1 → j ≤ 8 → unM R T (8 * a + j) = unM R T (8 * a)
  | 0, _, _ => rfl
  | j + 1, h, h8 => by
    rw [← unM_skip ha j (by omega) (by omega), show 8 * a + (j + 1) = (8 * a + j) + 1 by omega]
    show (if (8 * a + j) / 8 < (8 * a + j) % 8 then _ else _) = _
    rw [if_neg (fun w => by omega)]
theorem unC_self {R : Nat → Nat → Option Nat} : ∀ k, unC R R k = 0
  | 0 => rfl
  | k + 1 => by
    unfold unC
    rw [if_neg (fun w => w.2 rfl), unC_self k]
theorem unD_self (x : Option Nat) (m : Nat) : unD x x m = m := by
  cases x with
  | none => rfl
  | some p =>
    show max m _ = m
    omega
theorem unM_self {R : Nat → Nat → Option Nat} : ∀ k, unM R R k = 0
  | 0 => rfl
  | k + 1 => by
    unfold unM
    rw [unD_self, unM_self k]
    split <;> rfl
def d8 (R : Nat → Nat → Option Nat) : Prop := ∀ a b n, a < 8 → b < 8 → R a b = some n → n < 8
theorem dst_d8 : d8 (dst A) := fun _ _ _ ha hb h => (dst_8 ha h).2 hb
theorem unM_lt {R T : Nat → Nat → Option Nat} (hR : d8 R) (hT : d8 T) : ∀ k, k ≤ 64 → unM R T k < 8
  | 0, _ => by show 0 < 8; decide
  | k + 1, hk => by
    have ih := unM_lt hR hT k (by omega)
    unfold unM
    split
    · cases c1 : R (k / 8) (k % 8) with
      | none => exact ih
      | some p =>
        cases c2 : T (k / 8) (k % 8) with
        | none => exact ih
        | some q =>
          have := hR _ _ _ (by omega) (by omega) c1
          have := hT _ _ _ (by omega) (by omega) c2
          show max (unM R T k) _ < 8
          omega
    · exact ih
theorem oI_inE {x y : Option Nat} (hx : ∀ n, x = some n → n < 1000) (hy : ∀ n, y = some n → n < 1000) : (oI x = oI y) = (x = y) := by
  apply propext
  constructor
  · intro h
    cases x with
    | none =>
      cases y with
      | none => rfl
      | some q =>
        have h : (-1 : Int32) = nI q := h
        exact absurd h.symm (ng_m1 (by have := hy q rfl; omega))
    | some p =>
      have := hx p rfl
      cases y with
      | none =>
        have h : nI p = (-1 : Int32) := h
        exact absurd h (ng_m1 (by omega))
      | some q =>
        have := hy q rfl
        have h : nI p = nI q := h
        rw [nI_eq (by omega) (by omega)] at h
        rw [h]
  · intro h
    rw [h]
theorem cD_pairsUnlike {d e : Nat} (hd : Dok d) (he : Dok e) (h1 : DMs μ d A) (h2 : DMs μ e B) : Rt E MX0_pairsUnlike [.ref d, .ref e] μ (some (.int (nI (unC (dst A) (dst B) 64)))) μ := by
  refine Sp.go rfl rfl rfl (gX0_pairsUnlike_0 hd.1 he.1 ?_)
  have key : ∀ n a, a + n = 8 → Ex E MX0_pairsUnlike (fun v' ν' => v' = some (.int (nI (unC (dst A) (dst B) 64))) ∧ ν' = μ) 4 [(0, .ref d), (1, .ref e), (2, .int (nI (unC (dst A) (dst B) (8 * a)))), (3, .int (nI a))] [] μ := by
    intro n
    induction n with
    | zero =>
      intro a ha
      have : a = 8 := by omega
      subst this
      exact gX0_pairsUnlike_4 hd.1 he.1 ⟨fun _ => ⟨rfl, rfl⟩, fun z => absurd (by decide) z⟩
    | succ n ih =>
      intro a ha
      have inner : ∀ c b, b + c = 8 → a < b → Ex E MX0_pairsUnlike (fun v' ν' => v' = some (.int (nI (unC (dst A) (dst B) 64))) ∧ ν' = μ) 15 [(0, .ref d), (1, .ref e), (2, .int (nI (unC (dst A) (dst B) (8 * a + b)))), (3, .int (nI a)), (4, .int (nI b))] [] μ := by
        intro c
        induction c with
        | zero =>
          intro b hb hab
          have : b = 8 := by omega
          subst this
          refine gX0_pairsUnlike_15 hd.1 he.1 ⟨fun _ v2 e2 => ?_, fun z => absurd (by decide) z⟩
          rw [e2, n_addc]
          exact ih (a + 1) (by omega)
        | succ c ihc =>
          intro b hb hab
          refine gX0_pairsUnlike_15 hd.1 he.1 ?_
          simp (disch := omega) only [n_cle, n_in, nI_clamp]
          refine ⟨fun z => by omega, fun _ => ⟨by omega, by omega, Rt.i (cD_between he (by omega) (by omega)) ?_⟩⟩
          rw [h1 a b (by omega) (by omega), h2 a b (by omega) (by omega), oI_inE (fun n hn => by have := dst_d8 _ _ _ (show a < 8 by omega) (show b < 8 by omega) hn; omega) (fun n hn => by have := dst_d8 _ _ _ (show a < 8 by omega) (show b < 8 by omega) hn; omega)]
          have st : unC (dst A) (dst B) (8 * a + (b + 1)) = if ¬ dst A a b = dst B a b then unC (dst A) (dst B) (8 * a + b) + 1 else unC (dst A) (dst B) (8 * a + b) := by
            show (if (8 * a + b) / 8 < (8 * a + b) % 8 ∧ ¬ dst A ((8 * a + b) / 8) ((8 * a + b) % 8) = dst B ((8 * a + b) / 8) ((8 * a + b) % 8) then unC (dst A) (dst B) (8 * a + b) + 1 else unC (dst A) (dst B) (8 * a + b)) = _
            simp only [show (8 * a + b) / 8 = a by omega, show (8 * a + b) % 8 = b by omega]
            by_cases q : dst A a b = dst B a b
            · rw [if_neg (fun w => w.2 q), if_neg (fun w => w q)]
            · rw [if_pos ⟨hab, q⟩, if_pos q]
          refine ⟨fun q v8 e8 => ?_, fun q v9 e9 v10 e10 => ?_⟩
          · rw [e8, n_addc]
            have := ihc (b + 1) (by omega) (by omega)
            rw [st, if_neg (fun w => w q)] at this
            exact this
          · rw [e9, e10, n_addc, n_addc]
            have := ihc (b + 1) (by omega) (by omega)
            rw [st, if_pos q] at this
            exact this
      refine gX0_pairsUnlike_4 hd.1 he.1 ?_
      simp (disch := omega) only [n_cle]
      refine ⟨fun z => by omega, fun _ v2 e2 => ?_⟩
      rw [e2, n_addc]
      have := inner (7 - a) (a + 1) (by omega) (by omega)
      rw [unC_skip (by omega) (a + 1) (by omega) (by omega)] at this
      exact this
  exact key 8 0 rfl
theorem ab8 : ∀ p, p < 8 → ∀ q, q < 8 → (if (0 : Int32) ≤ nI p - nI q then nI p - nI q else 0 - (nI p - nI q)) = nI ((p - q) + (q - p)) := by decide +kernel
theorem cD_mostUnlike {d e : Nat} (hd : Dok d) (he : Dok e) (h1 : DMs μ d A) (h2 : DMs μ e B) : Rt E MX0_mostUnlike [.ref d, .ref e] μ (some (.int (nI (unM (dst A) (dst B) 64)))) μ := by
  refine Sp.go rfl rfl rfl (gX0_mostUnlike_0 hd.1 he.1 ?_)
  have key : ∀ n a, a + n = 8 → Ex E MX0_mostUnlike (fun v' ν' => v' = some (.int (nI (unM (dst A) (dst B) 64))) ∧ ν' = μ) 4 [(0, .ref d), (1, .ref e), (2, .int (nI (unM (dst A) (dst B) (8 * a)))), (3, .int (nI a))] [] μ := by
    intro n
    induction n with
    | zero =>
      intro a ha
      have : a = 8 := by omega
      subst this
      exact gX0_mostUnlike_4 hd.1 he.1 ⟨fun _ => ⟨rfl, rfl⟩, fun z => absurd (by decide) z⟩
    | succ n ih =>
      intro a ha
      have inner : ∀ c b, b + c = 8 → a < b → Ex E MX0_mostUnlike (fun v' ν' => v' = some (.int (nI (unM (dst A) (dst B) 64))) ∧ ν' = μ) 15 [(0, .ref d), (1, .ref e), (2, .int (nI (unM (dst A) (dst B) (8 * a + b)))), (3, .int (nI a)), (4, .int (nI b))] [] μ := by
        intro c
        induction c with
        | zero =>
          intro b hb hab
          have : b = 8 := by omega
          subst this
          refine gX0_mostUnlike_15 hd.1 he.1 ⟨fun _ v2 e2 => ?_, fun z => absurd (by decide) z⟩
          rw [e2, n_addc]
          exact ih (a + 1) (by omega)
        | succ c ihc =>
          intro b hb hab
          refine gX0_mostUnlike_15 hd.1 he.1 ?_
          simp (disch := omega) only [n_cle, n_in, nI_clamp]
          refine ⟨fun z => by omega, fun _ => ⟨by omega, by omega, fun v5 e5 => Rt.i (cD_between he (by omega) (by omega)) ?_⟩⟩
          rw [h1 a b (by omega) (by omega)] at e5
          rw [h2 a b (by omega) (by omega)]
          have st : unM (dst A) (dst B) (8 * a + (b + 1)) = unD (dst A a b) (dst B a b) (unM (dst A) (dst B) (8 * a + b)) := by
            show (if (8 * a + b) / 8 < (8 * a + b) % 8 then unD (dst A ((8 * a + b) / 8) ((8 * a + b) % 8)) (dst B ((8 * a + b) / 8) ((8 * a + b) % 8)) (unM (dst A) (dst B) (8 * a + b)) else _) = _
            rw [show (8 * a + b) / 8 = a by omega, show (8 * a + b) % 8 = b by omega, if_pos hab]
          have nx := ihc (b + 1) (by omega) (by omega)
          rw [st] at nx
          subst e5
          have um := unM_lt (dst_d8 (A := A)) (dst_d8 (A := B)) (8 * a + b) (by omega)
          cases c1 : dst A a b with
          | none =>
            rw [c1] at nx
            refine ⟨fun _ v9 e9 => by rw [e9, n_addc]; exact nx, fun z => absurd rfl z⟩
          | some p =>
            rw [c1] at nx
            have p8 := dst_d8 _ _ _ (show a < 8 by omega) (show b < 8 by omega) c1
            refine ⟨fun z => absurd z (ng_m1 (by omega)), fun _ => ?_⟩
            cases c2 : dst B a b with
            | none =>
              rw [c2] at nx
              refine ⟨fun _ v9 e9 => by rw [e9, n_addc]; exact nx, fun z => absurd rfl z⟩
            | some q =>
              rw [c2] at nx
              have q8 := dst_d8 _ _ _ (show a < 8 by omega) (show b < 8 by omega) c2
              refine ⟨fun z => absurd z (ng_m1 (by omega)), fun _ v12 e12 v13 e13 => ?_⟩
              have e12 : v12 = if nI (unM (dst A) (dst B) (8 * a + b)) < (if (0 : Int32) ≤ nI p - nI q then nI p - nI q else 0 - (nI p - nI q)) then (if (0 : Int32) ≤ nI p - nI q then nI p - nI q else 0 - (nI p - nI q)) else nI (unM (dst A) (dst B) (8 * a + b)) := e12
              rw [ab8 p p8 q q8] at e12
              have e12' : v12 = nI (max (unM (dst A) (dst B) (8 * a + b)) ((p - q) + (q - p))) := by
                rw [e12]
                by_cases w : unM (dst A) (dst B) (8 * a + b) < (p - q) + (q - p)
                · rw [if_pos (by rw [n_lt (by omega) (by omega)]; exact w), Nat.max_eq_right (by omega)]
                · rw [if_neg (by rw [n_lt (by omega) (by omega)]; exact w), Nat.max_eq_left (by omega)]
              rw [e12', e13, n_addc]
              exact nx
      refine gX0_mostUnlike_4 hd.1 he.1 ?_
      simp (disch := omega) only [n_cle]
      refine ⟨fun z => by omega, fun _ v2 e2 => ?_⟩
      rw [e2, n_addc]
      have := inner (7 - a) (a + 1) (by omega) (by omega)
      rw [unM_skip (by omega) (a + 1) (by omega) (by omega)] at this
      exact this
  exact key 8 0 rfl
noncomputable def chV (A B : Nat → Nat → Prop) (w : Nat) : Nat := if w = 0 then unC (dst A) (dst B) 64 else unM (dst A) (dst B) 64
theorem chV_self {w : Nat} : chV A A w = 0 := by
  unfold chV
  rw [unC_self, unM_self]
  split <;> rfl
def S167 (o _k : Nat) : Prop := o = 146 ∨ o = 147
theorem S167_SQ {o k : Nat} (h : S167 o k) : SQ o k := by unfold S167 at h; unfold SQ; omega
theorem cM_changed {x1 x2 x3 : Int32} {w : Nat} {P : Nat → Prop} (hw : w < 2) (hC : ML μ L) (hS : S < 512) (h3 : μ.1 123 13 = nI S) (hP : ∀ g, g < L.1 → ((S.testBit g = false ∧ ¬ nI g = x1) ↔ P g)) (hB : (x2 = -1 ∧ B = adj L P) ∨ (∃ a b, a < 8 ∧ b < 8 ∧ x2 = nI a ∧ x3 = nI b ∧ B = lnk (adj L P) a b)) : Sp E MX11_changed [.ref 123, .int x1, .int x2, .int x3, .int (nI w)] μ (fun v ν => ∃ r, v = some (.int r) ∧ (r = nI (chV (adj L (pO S)) B w) ∧ Fr S167 μ ν)) := by
  have hg := hC.1
  refine Sp.go rfl rfl rfl (gX11_changed_0 (Sp.v (cM_findFar hC hS h3 (pO_M hg) (Or.inl ⟨rfl, rfl⟩)) (fun m1 h1 => ?_)))
  generalize hA : adj L (pO S) = A at h1
  have ph2 : ∀ n k m, k + n = 64 → (∀ i, i < 64 → m.1 147 i = nI ((dst A (i / 8) (i % 8)).getD 1000)) → fRes m B → Fr S167 μ m → Ex E MX11_changed (fun v ν => ∃ r, v = some (.int r) ∧ (r = nI (chV A B w) ∧ Fr S167 μ ν)) 53 [(0, .ref 123), (1, .int x1), (2, .int x2), (3, .int x3), (4, .int (nI w)), (5, .int (nI (unC (dst A) (dst B) k))), (6, .int (nI (unM (dst A) (dst B) k))), (7, .int (nI k))] [] m := by
    intro n
    induction n with
    | zero =>
      intro k m hk hA1 hB1 hf
      have : k = 64 := by omega
      subst this
      refine gX11_changed_53 ⟨fun _ => ?_, fun z => absurd (by decide) z⟩
      rw [n_eq0 (by omega)]
      exact ⟨fun z => ⟨_, rfl, by unfold chV; rw [if_neg z], hf⟩, fun z => ⟨_, rfl, by unfold chV; rw [if_pos z], hf⟩⟩
    | succ n ih =>
      intro k m hk hA1 hB1 hf
      have um := unM_lt (dst_d8 (A := A)) (dst_d8 (A := B)) k (by omega)
      have uc := unC_le (dst A) (dst B) k
      have r1 := hA1 k (by omega)
      have r2 := hB1 (k / 8) (k % 8) (by omega) (by omega)
      rw [show 8 * (k / 8) + k % 8 = k by omega] at r2
      have ga : (dst A (k / 8) (k % 8)).getD 1000 ≤ 1000 := by
        cases c : dst A (k / 8) (k % 8) with
        | none => exact Nat.le_refl _
        | some p => have := dst_d8 _ _ _ (show k / 8 < 8 by omega) (show k % 8 < 8 by omega) c; show p ≤ 1000; omega
      have gb : (dst B (k / 8) (k % 8)).getD 1000 ≤ 1000 := by
        cases c : dst B (k / 8) (k % 8) with
        | none => exact Nat.le_refl _
        | some p => have := dst_d8 _ _ _ (show k / 8 < 8 by omega) (show k % 8 < 8 by omega) c; show p ≤ 1000; omega
      have nx := ih (k + 1) m (by omega) hA1 hB1 hf
      have sC : unC (dst A) (dst B) (k + 1) = if k / 8 < k % 8 ∧ ¬ dst A (k / 8) (k % 8) = dst B (k / 8) (k % 8) then unC (dst A) (dst B) k + 1 else unC (dst A) (dst B) k := rfl
      have sM : unM (dst A) (dst B) (k + 1) = if k / 8 < k % 8 then unD (dst A (k / 8) (k % 8)) (dst B (k / 8) (k % 8)) (unM (dst A) (dst B) k) else unM (dst A) (dst B) k := rfl
      generalize hp : dst A (k / 8) (k % 8) = p at r1 ga sC sM
      generalize hq : dst B (k / 8) (k % 8) = q at r2 gb sC sM
      have p8 : ∀ n, p = some n → n < 8 := fun n hn => dst_d8 _ _ _ (show k / 8 < 8 by omega) (show k % 8 < 8 by omega) (hp.trans hn)
      have q8 : ∀ n, q = some n → n < 8 := fun n hn => dst_d8 _ _ _ (show k / 8 < 8 by omega) (show k % 8 < 8 by omega) (hq.trans hn)
      have mid0 : (¬ (k / 8 < k % 8 ∧ ¬ p = q)) → Ex E MX11_changed (fun v ν => ∃ r, v = some (.int r) ∧ (r = nI (chV A B w) ∧ Fr S167 μ ν)) 95 [(0, .ref 123), (1, .int x1), (2, .int x2), (3, .int x3), (4, .int (nI w)), (5, .int (nI (unC (dst A) (dst B) k))), (6, .int (nI (unM (dst A) (dst B) k))), (7, .int (nI k))] [.int 0] m := by
        intro hn
        have e1 : unC (dst A) (dst B) (k + 1) = unC (dst A) (dst B) k := by rw [sC, if_neg hn]
        have e2 : unM (dst A) (dst B) (k + 1) = unM (dst A) (dst B) k := by
          rw [sM]
          by_cases c : k / 8 < k % 8
          · rw [if_pos c]
            have : p = q := by
              by_cases w : p = q
              · exact w
              · exact absurd ⟨c, w⟩ hn
            rw [this, unD_self]
          · rw [if_neg c]
        rw [e1, e2] at nx
        have fin : ∀ y, Ex E MX11_changed (fun v ν => ∃ r, v = some (.int r) ∧ (r = nI (chV A B w) ∧ Fr S167 μ ν)) 147 [(0, .ref 123), (1, .int x1), (2, .int x2), (3, .int x3), (4, .int (nI w)), (5, .int (nI (unC (dst A) (dst B) k))), (6, .int (nI (unM (dst A) (dst B) k))), (7, .int (nI k)), (8, .int 0)] [.int y] m := by
          intro y
          refine gX11_changed_147 ⟨fun _ => gX11_changed_161 (fun v1 e1 => ⟨fun _ v3 e3 => ?_, fun z => absurd rfl z⟩), fun z => absurd rfl z⟩
          rw [e1, e3, n_addc, n_addc]
          exact nx
        refine gX11_changed_95 ?_
        simp (disch := omega) only [n_in, nI_clamp]
        exact ⟨by omega, fun _ => fin _, fun _ => fin _⟩
      have mid1 : (k / 8 < k % 8 ∧ ¬ p = q) → Ex E MX11_changed (fun v ν => ∃ r, v = some (.int r) ∧ (r = nI (chV A B w) ∧ Fr S167 μ ν)) 95 [(0, .ref 123), (1, .int x1), (2, .int x2), (3, .int x3), (4, .int (nI w)), (5, .int (nI (unC (dst A) (dst B) k))), (6, .int (nI (unM (dst A) (dst B) k))), (7, .int (nI k))] [.int 1] m := by
        intro hn
        have e1 : unC (dst A) (dst B) (k + 1) = unC (dst A) (dst B) k + 1 := by rw [sC, if_pos hn]
        rw [sM, if_pos hn.1] at nx
        rw [e1] at nx
        have fin : ∀ y, (p ≠ none → q ≠ none → y = nI ((p.getD 1000 - q.getD 1000) + (q.getD 1000 - p.getD 1000))) → Ex E MX11_changed (fun v ν => ∃ r, v = some (.int r) ∧ (r = nI (chV A B w) ∧ Fr S167 μ ν)) 147 [(0, .ref 123), (1, .int x1), (2, .int x2), (3, .int x3), (4, .int (nI w)), (5, .int (nI (unC (dst A) (dst B) k))), (6, .int (nI (unM (dst A) (dst B) k))), (7, .int (nI k)), (8, .int 1)] [.int y] m := by
          intro y hy
          refine gX11_changed_147 ⟨fun z => absurd z (by decide), fun _ => gX11_changed_161 (fun v1 e1 => ⟨fun z => absurd z (by decide), fun _ => ?_⟩)⟩
          rw [n_addc] at e1
          subst e1
          simp (disch := omega) only [n_in, nI_clamp]
          refine ⟨by omega, ?_⟩
          rw [r1, r2, n_cle (by omega) (by decide), n_cle (by omega) (by decide)]
          have hp' : ∀ h : 1000 ≤ p.getD 1000, p = none := fun h => by
            cases p with
            | none => rfl
            | some a => have := p8 a rfl; have h : 1000 ≤ a := h; omega
          have hq' : ∀ h : 1000 ≤ q.getD 1000, q = none := fun h => by
            cases q with
            | none => rfl
            | some a => have := q8 a rfl; have h : 1000 ≤ a := h; omega
          refine ⟨fun z v6 e6 => ?_, fun z => ⟨fun z2 v6 e6 => ?_, fun z2 => ?_⟩⟩
          · rw [e6, n_addc]
            have hz := hq' z
            subst hz
            cases p <;> exact nx
          · rw [e6, n_addc]
            have hz := hp' z2
            subst hz
            exact nx
          · cases p with
            | none => exact absurd (show 1000 ≤ 1000 by decide) z2
            | some a =>
              cases q with
              | none => exact absurd (show 1000 ≤ 1000 by decide) z
              | some b =>
                have a8 := p8 a rfl
                have b8 := q8 b rfl
                have hy' : y = nI ((a - b) + (b - a)) := hy (fun z => by cases z) (fun z => by cases z)
                have nx' : Ex E MX11_changed (fun v ν => ∃ r, v = some (.int r) ∧ (r = nI (chV A B w) ∧ Fr S167 μ ν)) 53 [(0, .ref 123), (1, .int x1), (2, .int x2), (3, .int x3), (4, .int (nI w)), (5, .int (nI (unC (dst A) (dst B) k + 1))), (6, .int (nI (max (unM (dst A) (dst B) k) ((a - b) + (b - a))))), (7, .int (nI (k + 1)))] [] m := nx
                subst hy'
                rw [n_le (by omega) (by omega)]
                refine ⟨fun z3 v6 e6 => ?_, fun z3 v6 e6 => ?_⟩
                · rw [e6, n_addc]
                  rw [Nat.max_eq_left z3] at nx'
                  exact nx'
                · rw [e6, n_addc]
                  rw [Nat.max_eq_right (by omega)] at nx'
                  exact nx'
        refine gX11_changed_95 ?_
        simp (disch := omega) only [n_in, nI_clamp]
        rw [r1, r2, n_le (by omega) (by omega)]
        refine ⟨by omega, fun z => fin _ (fun _ _ => ?_), fun z => fin _ (fun _ _ => ?_)⟩
        · rw [pk_sub (by omega)]
          congr 1
          omega
        · rw [pk_sub (by omega)]
          congr 1
          omega
      refine gX11_changed_53 ?_
      simp (disch := omega) only [n_cle, n_divc, n_mod8, n_le, n_in, nI_clamp]
      rw [r1, r2, n_eq (by omega) (by omega)]
      have ge : q.getD 1000 = p.getD 1000 ↔ p = q := by
        constructor
        · intro h
          cases p with
          | none =>
            cases q with
            | none => rfl
            | some b => have := q8 b rfl; have h : b = 1000 := h; omega
          | some a =>
            have := p8 a rfl
            cases q with
            | none => have h : 1000 = a := h; omega
            | some b => have h : b = a := h; rw [h]
        · intro h
          rw [h]
      refine ⟨fun z => by omega, fun _ => ⟨fun z => mid0 (fun w => by omega), fun z => ⟨by omega, fun z2 => mid0 (fun w => w.2 (ge.1 z2)), fun z2 => mid1 ⟨by omega, fun w => z2 (ge.2 w)⟩⟩⟩⟩
  have ph1 : ∀ n k m, k + n = 64 → (∀ i, i < k → m.1 147 i = nI ((dst A (i / 8) (i % 8)).getD 1000)) → fRes m A → Fr S167 μ m → Ex E MX11_changed (fun v ν => ∃ r, v = some (.int r) ∧ (r = nI (chV A B w) ∧ Fr S167 μ ν)) 10 [(0, .ref 123), (1, .int x1), (2, .int x2), (3, .int x3), (4, .int (nI w)), (5, .int (nI k))] [] m := by
    intro n
    induction n with
    | zero =>
      intro k m hk hA1 hB1 hf
      have : k = 64 := by omega
      subst this
      have hC' : ML m L := hC.frS hf (by unfold S167; omega) (by unfold S167; omega) (fun k => by unfold S167; omega)
      refine gX11_changed_10 ⟨fun _ => Sp.v (cM_findFar hC' hS (by rw [(hf _ _ (by unfold S167; omega)).1]; exact h3) hP hB) (fun m2 h2 => ?_), fun z => absurd (by decide) z⟩
      refine ph2 64 0 m2 rfl (fun i hi => ?_) h2.1 (Fr.tr hf (h2.2.up (fun o k w => Or.inl w)))
      rw [(h2.2 _ _ (by unfold S146; omega)).1]
      exact hA1 i hi
    | succ n ih =>
      intro k m hk hA1 hB1 hf
      refine gX11_changed_10 ?_
      simp (disch := omega) only [n_cle, n_in, nI_clamp]
      refine ⟨fun z => by omega, fun _ => ⟨by omega, fun v4 e4 v5 e5 => ?_⟩⟩
      have r2 := hB1 (k / 8) (k % 8) (by omega) (by omega)
      rw [show 8 * (k / 8) + k % 8 = k by omega] at r2
      rw [e5, n_addc]
      refine ih (k + 1) _ (by omega) (fun i hi => ?_) (fun a b ha hb => ?_) (Fr.tr hf (Fr.I (Or.inr rfl)))
      · rw [mI_1]
        by_cases c : i = k
        · rw [if_pos ⟨rfl, c⟩, e4, r2, c]
        · rw [if_neg (fun w => c w.2)]
          exact hA1 i (by omega)
      · rw [mI_1, if_neg (by omega)]
        exact hB1 a b ha hb
  exact ph1 64 0 m1 rfl (fun i hi => by omega) h1.1 (h1.2.up (fun o k w => Or.inl w))
end WITHOUT
