section MANYM
variable {E : EV} {μ ν : Mem} {L : LD} {S : Nat} {tn : Nat → Nat} {tb : Nat → Nat → Nat} {n q a b f t : Nat} {p : PA}
def CLm (m : Mem) (L : LD) (S N : Nat) : Prop := ∀ q a b k, q ≤ 18 → a < 8 → b < 8 → k < N → m.2 139 (((q * 8 + a) * 8 + b) * 13 + k) = cl L S q a b k
def S139 (o _k : Nat) : Prop := o = 139
def cbV (L : LD) (S q a b n l : Nat) : Int64 := if lW L l = true then sJ (n - 1) (fun k => cl L S (bk l) (lE L l) (lE L l) k * cl L S q a b (n - 2 - k)) else cl L S q (lE L l) b (n - 1)
theorem ML.w (hC : ML μ L) {l : Nat} (hl : l < 2 * L.1) : vp_in (nI l / 2) 9 ∧ ((μ.1 132 ((nI l / 2).toNatClampNeg) = 0) = (lW L l = false)) := by
  have h9 := hC.1
  obtain ⟨q1, q2, q3, q4, q5⟩ := hC.2.2.2.2.2 (l / 2) (by omega)
  rw [n_divc (by omega) (by decide) (by decide), n_in (by omega) (by decide), nI_clamp (by omega), q5]
  refine ⟨by omega, ?_⟩
  unfold lW
  cases L.2.2.2.1 (l / 2) <;> simp
theorem cM_closedBy {l : Nat} (hC : ML μ L) (hm : CLm μ L S n) (hl : l < 2 * L.1) (hq : q ≤ 18) (ha : a < 8) (hb : b < 8) (hn : 1 ≤ n ∧ n ≤ 12) : Rt E MX11_closedBy [.ref 123, .int (nI l), .int (nI q), .int (nI a), .int (nI b), .int (nI n)] μ (some (.long (cbV L S q a b n l))) μ := by
  have hL := hC.ok
  have h9 := hL.1
  obtain ⟨s8, e8⟩ := hL.2 l hl
  have bl := bk_lt hl
  obtain ⟨w1, w2⟩ := hC.w hl
  refine Sp.go rfl rfl rfl (gX11_closedBy_0 ⟨w1, fun z => ?_, fun z => ?_⟩)
  · rw [w2] at z
    have lw : lW L l = true := by simpa using z
    have key : ∀ d k, k + d = n - 1 → Ex E MX11_closedBy (fun v' ν' => v' = some (.long (cbV L S q a b n l)) ∧ ν' = μ) 38 [(0, .ref 123), (1, .int (nI l)), (2, .int (nI q)), (3, .int (nI a)), (4, .int (nI b)), (5, .int (nI n)), (6, .long (sJ k (fun k => cl L S (bk l) (lE L l) (lE L l) k * cl L S q a b (n - 2 - k)))), (8, .int (nI k))] [] μ := by
      intro d
      induction d with
      | zero =>
        intro k hk
        refine gX11_closedBy_38 ?_
        rw [n_addc, n_lt (by omega) (by omega)]
        refine ⟨fun _ => ⟨?_, rfl⟩, fun z => by omega⟩
        unfold cbV
        rw [if_pos lw, show k = n - 1 by omega]
      | succ d ih =>
        intro k hk
        have nx := ih (k + 1) (by omega)
        refine gX11_closedBy_38 ?_
        rw [n_addc, n_lt (by omega) (by omega), show nI n - 2 = nI (n - 2) from pk_sub (b := 2) (by omega), pk_sub (by omega)]
        refine ⟨fun z => by omega, fun _ => Rt.i (cM_back (by omega)) (Rt.i (cM_end hC hl) (Rt.i (cM_end hC hl) (Rt.i cM_index ?_)))⟩
        simp (disch := omega) only [n_in, nI_clamp]
        refine ⟨by omega, Rt.i cM_index ?_⟩
        simp (disch := omega) only [n_in, nI_clamp]
        refine ⟨by omega, fun v14 e14 v15 e15 => ?_⟩
        rw [e14, e15, n_addc, hm _ _ _ k (by omega) e8 e8 (by omega), hm _ _ _ (n - 2 - k) hq ha hb (by omega)]
        exact nx
    exact key (n - 1) 0 (by omega)
  · rw [w2] at z
    refine Rt.i (cM_end hC hl) ?_
    rw [show nI n - 1 = nI (n - 1) from pk_sub (b := 1) (by omega)]
    refine Rt.i cM_index ?_
    simp (disch := omega) only [n_in, nI_clamp]
    refine ⟨by omega, ?_, (by first | rfl | trivial)⟩
    rw [hm _ _ _ (n - 1) hq e8 hb (by omega)]
    unfold cbV
    rw [if_neg (by rw [z]; decide)]
theorem cM_findClosed (hC : ML μ L) (hS : S < 512) (h13 : μ.1 123 13 = nI S) (hn : n ≤ 12) (hm : CLm μ L S n) : Sp E MX11_findClosed [.ref 123, .int (nI n)] μ (fun v ν => v = none ∧ (CLm ν L S (n + 1) ∧ Fr S139 μ ν)) := by
  have hL := hC.ok
  have h9 := hL.1
  have mk : ∀ m, Fr S139 μ m → ML m L ∧ m.1 123 13 = nI S := fun m hf => ⟨hC.frS hf (by unfold S139; omega) (by unfold S139; omega) (fun k => by unfold S139; omega), by rw [(hf _ _ (by unfold S139; omega)).1]; exact h13⟩
  refine Sp.go rfl rfl rfl (gX11_findClosed_0 ?_)
  have kq : ∀ d q m, q + d = 19 → Fr S139 μ m → CLm m L S n → (∀ q' a' b', q' ≤ 18 → a' < 8 → b' < 8 → (q' * 8 + a') * 8 + b' < (q * 8 + 0) * 8 + 0 → m.2 139 (((q' * 8 + a') * 8 + b') * 13 + n) = cl L S q' a' b' n) → Ex E MX11_findClosed (fun v ν => v = none ∧ (CLm ν L S (n + 1) ∧ Fr S139 μ ν)) 2 [(0, .ref 123), (1, .int (nI n)), (2, .int (nI q))] [] m := by
    intro d
    induction d with
    | zero =>
      intro q m hq hf hm hp
      refine gX11_findClosed_2 ?_
      rw [n_clt (by omega) (by decide)]
      refine ⟨fun _ => ⟨rfl, fun q' a' b' k h1 h2 h3 h4 => ?_, hf⟩, fun z => absurd (show 18 < q by omega) z⟩
      by_cases c : k = n
      · rw [c]; exact hp q' a' b' h1 h2 h3 (by omega)
      · exact hm q' a' b' k h1 h2 h3 (by omega)
    | succ d ih =>
      intro q m hq hf hm hp
      have q18 : q ≤ 18 := by omega
      have ka : ∀ d a m, a + d = 8 → Fr S139 μ m → CLm m L S n → (∀ q' a' b', q' ≤ 18 → a' < 8 → b' < 8 → (q' * 8 + a') * 8 + b' < (q * 8 + a) * 8 + 0 → m.2 139 (((q' * 8 + a') * 8 + b') * 13 + n) = cl L S q' a' b' n) → Ex E MX11_findClosed (fun v ν => v = none ∧ (CLm ν L S (n + 1) ∧ Fr S139 μ ν)) 10 [(0, .ref 123), (1, .int (nI n)), (2, .int (nI q)), (3, .int (nI a))] [] m := by
        intro d
        induction d with
        | zero =>
          intro a m ha hf hm hp
          have : a = 8 := by omega
          subst this
          refine gX11_findClosed_10 ⟨fun _ v2 e2 => ?_, fun z => absurd (by decide) z⟩
          rw [e2, n_addc]
          exact ih (q + 1) m (by omega) hf hm (fun q' a' b' h1 h2 h3 h4 => hp q' a' b' h1 h2 h3 (by omega))
        | succ d iha =>
          intro a m ha hf hm hp
          have a8 : a < 8 := by omega
          have kb : ∀ d b m, b + d = 8 → Fr S139 μ m → CLm m L S n → (∀ q' a' b', q' ≤ 18 → a' < 8 → b' < 8 → (q' * 8 + a') * 8 + b' < (q * 8 + a) * 8 + b → m.2 139 (((q' * 8 + a') * 8 + b') * 13 + n) = cl L S q' a' b' n) → Ex E MX11_findClosed (fun v ν => v = none ∧ (CLm ν L S (n + 1) ∧ Fr S139 μ ν)) 19 [(0, .ref 123), (1, .int (nI n)), (2, .int (nI q)), (3, .int (nI a)), (4, .int (nI b))] [] m := by
            intro d
            induction d with
            | zero =>
              intro b m hb hf hm hp
              have : b = 8 := by omega
              subst this
              refine gX11_findClosed_19 ⟨fun _ v2 e2 => ?_, fun z => absurd (by decide) z⟩
              rw [e2, n_addc]
              exact iha (a + 1) m (by omega) hf hm (fun q' a' b' h1 h2 h3 h4 => hp q' a' b' h1 h2 h3 (by omega))
            | succ d ihb =>
              intro b m hb hf hm hp
              have b8 : b < 8 := by omega
              obtain ⟨M, s⟩ := mk m hf
              have put : ∀ x : Int64, x = cl L S q a b n → Sp E MX11_index [.int (nI q), .int (nI a), .int (nI b), .int (nI n)] m (fun v m2 => ∃ r3 : Int32, v = some (.int r3) ∧ vp_in r3 15808 ∧ (∀ v5 : Int32, v5 = nI b + 1 → Ex E MX11_findClosed (fun v ν => v = none ∧ (CLm ν L S (n + 1) ∧ Fr S139 μ ν)) 19 [(0, .ref 123), (1, .int (nI n)), (2, .int (nI q)), (3, .int (nI a)), (4, .int v5)] [] (mJ m2 139 r3.toNatClampNeg x))) := by
                intro x hx
                refine Rt.i cM_index ?_
                simp (disch := omega) only [n_in, nI_clamp]
                refine ⟨by omega, fun v5 e5 => ?_⟩
                rw [e5, n_addc]
                refine ihb (b + 1) _ (by omega) (Fr.tr hf (Fr.J rfl)) (fun q' a' b' k h1 h2 h3 h4 => ?_) (fun q' a' b' h1 h2 h3 h4 => ?_)
                · rw [mJ_2, if_neg (by omega)]
                  exact hm q' a' b' k h1 h2 h3 h4
                · rw [mJ_2]
                  by_cases c : (q' * 8 + a') * 8 + b' = (q * 8 + a) * 8 + b
                  · have c1 : q' = q := by omega
                    have c2 : a' = a := by omega
                    have c3 : b' = b := by omega
                    subst c1
                    subst c2
                    subst c3
                    rw [if_pos ⟨rfl, rfl⟩, hx]
                  · rw [if_neg (by omega)]
                    exact hp q' a' b' h1 h2 h3 (by omega)
              have rec0 := cl_rec (L := L) (S := S) (q := q) (a := a) (b := b) (n := n)
              unfold clS at rec0
              refine gX11_findClosed_19 ?_
              rw [n_cle (by omega) (by decide), n_eq0 (by omega), n_eq (by omega) (by omega)]
              have sum0 : n = 0 → ∀ x : Int64, x = (if a = b then 1 else 0) → Ex E MX11_findClosed (fun v ν => v = none ∧ (CLm ν L S (n + 1) ∧ Fr S139 μ ν)) 46 [(0, .ref 123), (1, .int (nI n)), (2, .int (nI q)), (3, .int (nI a)), (4, .int (nI b)), (5, .long x), (7, .int 0)] [] m := by
                intro n0 x hx
                rw [if_pos n0, ← hx] at rec0
                refine gX11_findClosed_46 ⟨fun _ => put x rec0.symm, fun _ => ⟨fun _ => put x rec0.symm, fun z => ?_⟩⟩
                rw [n_le0 (by omega)] at z
                exact absurd n0 z
              have sumn : ¬ n = 0 → ∀ d l, l + d = 2 * L.1 → Ex E MX11_findClosed (fun v ν => v = none ∧ (CLm ν L S (n + 1) ∧ Fr S139 μ ν)) 46 [(0, .ref 123), (1, .int (nI n)), (2, .int (nI q)), (3, .int (nI a)), (4, .int (nI b)), (5, .long (sJ l (fun l => if lS L l = a ∧ S.testBit (l / 2) = false ∧ ¬ (l = q ∧ lW L l = true) then cbV L S q a b n l else 0))), (7, .int (nI l))] [] m := by
                intro n0 d
                rw [if_neg n0] at rec0
                induction d with
                | zero =>
                  intro l hl
                  have : l = 2 * L.1 := by omega
                  subst this
                  refine gX11_findClosed_46 ?_
                  rw [M.2.2.2.1, n_cmul, n_le (by omega) (by omega)]
                  exact ⟨fun _ => put _ rec0.symm, fun z => absurd (Nat.le_refl _) z⟩
                | succ d ihl =>
                  intro l hl
                  have l2 : l < 2 * L.1 := by omega
                  have nx := ihl (l + 1) (by omega)
                  have st : sJ (l + 1) (fun l => if lS L l = a ∧ S.testBit (l / 2) = false ∧ ¬ (l = q ∧ lW L l = true) then cbV L S q a b n l else 0) = sJ l (fun l => if lS L l = a ∧ S.testBit (l / 2) = false ∧ ¬ (l = q ∧ lW L l = true) then cbV L S q a b n l else 0) + (if lS L l = a ∧ S.testBit (l / 2) = false ∧ ¬ (l = q ∧ lW L l = true) then cbV L S q a b n l else 0) := rfl
                  rw [st] at nx
                  obtain ⟨s8, e8⟩ := hL.2 l l2
                  obtain ⟨w1, w2⟩ := M.w l2
                  have take : ∀ {x : Int64}, lS L l = a → S.testBit (l / 2) = false → ¬ (l = q ∧ lW L l = true) → x = sJ l (fun l => if lS L l = a ∧ S.testBit (l / 2) = false ∧ ¬ (l = q ∧ lW L l = true) then cbV L S q a b n l else 0) → Sp E MX11_closedBy [.ref 123, .int (nI l), .int (nI q), .int (nI a), .int (nI b), .int (nI n)] m (fun v m22 => ∃ r23 : Int64, v = some (.long r23) ∧ ∀ v24 : Int64, v24 = x + r23 → ∀ v25 : Int32, v25 = nI l + 1 → Ex E MX11_findClosed (fun v ν => v = none ∧ (CLm ν L S (n + 1) ∧ Fr S139 μ ν)) 46 [(0, .ref 123), (1, .int (nI n)), (2, .int (nI q)), (3, .int (nI a)), (4, .int (nI b)), (5, .long v24), (7, .int v25)] [] m22) := by
                    intro x c1 c2 c3 hx
                    refine Rt.l (cM_closedBy M hm l2 q18 a8 b8 (by omega)) (fun v24 e24 v25 e25 => ?_)
                    rw [if_pos ⟨c1, c2, c3⟩] at nx
                    rw [e24, e25, n_addc, hx]
                    exact nx
                  have skip : ¬ (lS L l = a ∧ S.testBit (l / 2) = false ∧ ¬ (l = q ∧ lW L l = true)) → ∀ v14 : Int64, v14 = sJ l (fun l => if lS L l = a ∧ S.testBit (l / 2) = false ∧ ¬ (l = q ∧ lW L l = true) then cbV L S q a b n l else 0) + 0 → ∀ v15 : Int32, v15 = nI l + 1 → Ex E MX11_findClosed (fun v ν => v = none ∧ (CLm ν L S (n + 1) ∧ Fr S139 μ ν)) 46 [(0, .ref 123), (1, .int (nI n)), (2, .int (nI q)), (3, .int (nI a)), (4, .int (nI b)), (5, .long v14), (7, .int v15)] [] m := by
                    intro hno v14 e14 v15 e15
                    rw [if_neg hno] at nx
                    rw [e14, e15, n_addc]
                    exact nx
                  refine gX11_findClosed_46 ?_
                  rw [M.2.2.2.1, n_cmul, n_le (by omega) (by omega), n_le0 (by omega)]
                  refine ⟨fun z => by omega, fun _ => ⟨fun z => absurd z n0, fun _ => Rt.i (cM_start M l2) ?_⟩⟩
                  rw [n_eq (by omega) (by omega)]
                  refine ⟨fun z => skip (fun w => z w.1), fun z => ?_⟩
                  rw [n_divc (by omega) (by decide) (by decide)] at w1 w2 ⊢
                  refine Rt.i (cM_isShut hS s (by omega)) ?_
                  rw [b2_0, n_eq (by omega) (by omega)]
                  refine ⟨fun z2 => skip (fun w => z2 (by rw [w.2.1]; exact fun w => by cases w)), fun z2 => ?_⟩
                  have z2 : S.testBit (l / 2) = false := by simpa using z2
                  refine ⟨fun z3 => take z z2 (fun w => z3 w.1) rfl, fun z3 => ⟨w1, ?_⟩⟩
                  rw [w2]
                  exact ⟨fun z4 => skip (fun w => w.2.2 ⟨z3, by simpa using z4⟩), fun z4 => take z z2 (fun w => by rw [z4] at w; exact absurd w.2 (by decide)) rfl⟩
              refine ⟨fun z => absurd (show 8 ≤ b from z) (by omega), fun _ => ⟨fun z => sumn z (2 * L.1) 0 (by omega), fun z => ⟨fun z2 => sum0 z 0 (by rw [if_neg z2]), fun z2 => sum0 z 1 (by rw [if_pos z2])⟩⟩⟩
          refine gX11_findClosed_10 ?_
          rw [n_cle (by omega) (by decide)]
          exact ⟨fun z => absurd (show 8 ≤ a from z) (by omega), fun _ => kb 8 0 m rfl hf hm hp⟩
      refine gX11_findClosed_2 ?_
      rw [n_clt (by omega) (by decide)]
      exact ⟨fun z => absurd (show 18 < q from z) (by omega), fun _ => ka 8 0 m rfl hf hm hp⟩
  exact kq 19 0 μ rfl Fr.rf hm (fun q' a' b' h1 h2 h3 h4 => by omega)
def S1401 (o _k : Nat) : Prop := o = 140 ∨ o = 141
def SEQ (m : Mem) (s : Nat → Int64) : Prop := ∀ k, k < 13 → m.2 140 k = s k
def flS (w : Nat) (s : Nat → Int64) : Nat → Int64 := if w = 0 then s else sf s
theorem cM_follows {w : Nat} {s : Nat → Int64} (hm : CLm μ L S 13) (hs : SEQ μ s) (hq : q ≤ 18) (ha : a < 8) (hb : b < 8) (hw : w < 2) : Sp E MX11_follows [.ref 123, .int (nI q), .int (nI a), .int (nI b), .int (nI w)] μ (fun v ν => v = none ∧ (SEQ ν (flS w (cv s (cl L S q a b))) ∧ Fr S1401 μ ν)) := by
  refine Sp.go rfl rfl rfl (gX11_follows_0 ?_)
  have k83 : ∀ d k m, k + d = 13 → Fr S1401 μ m → (∀ i, i < 13 → m.2 141 i = flS w (cv s (cl L S q a b)) i) → (∀ i, i < k → m.2 140 i = flS w (cv s (cl L S q a b)) i) → Ex E MX11_follows (fun v ν => v = none ∧ (SEQ ν (flS w (cv s (cl L S q a b))) ∧ Fr S1401 μ ν)) 83 [(0, .ref 123), (1, .int (nI q)), (2, .int (nI a)), (3, .int (nI b)), (4, .int (nI w)), (5, .int (nI k))] [] m := by
    intro d
    induction d with
    | zero =>
      intro k m hk hf h1 h2
      have : k = 13 := by omega
      subst this
      exact gX11_follows_83 ⟨fun _ => ⟨rfl, h2, hf⟩, fun z => absurd (by decide) z⟩
    | succ d ih =>
      intro k m hk hf h1 h2
      refine gX11_follows_83 ?_
      simp (disch := omega) only [n_cle, n_in, nI_clamp]
      refine ⟨fun z => by omega, fun _ => ⟨by omega, fun v3 e3 v4 e4 => ?_⟩⟩
      rw [e4, n_addc]
      refine ih (k + 1) _ (by omega) (Fr.tr hf (Fr.J (Or.inl rfl))) (fun i hi => ?_) (fun i hi => ?_)
      · rw [mJ_2, if_neg (by omega)]; exact h1 i hi
      · rw [mJ_2]
        by_cases c : i = k
        · rw [if_pos ⟨rfl, c⟩, e3, c]; exact h1 k (by omega)
        · rw [if_neg (fun v => c v.2)]; exact h2 i (by omega)
  have val : ∀ n, sJ (n + 1 - w) (fun k => s k * cl L S q a b (n - w - k)) = flS w (cv s (cl L S q a b)) n := by
    intro n
    rcases (show w = 0 ∨ w = 1 by omega) with e | e
    · subst e; rfl
    · subst e
      show sJ n _ = if n = 0 then 0 else cv s (cl L S q a b) (n - 1)
      by_cases c : n = 0
      · rw [if_pos c, c]; rfl
      · rw [if_neg c]
        unfold cv
        rw [show n - 1 + 1 = n by omega]
  have k3 : ∀ d n m, n + d = 13 → Fr (fun o _ => o = 141) μ m → (∀ i, i < n → m.2 141 i = flS w (cv s (cl L S q a b)) i) → Ex E MX11_follows (fun v ν => v = none ∧ (SEQ ν (flS w (cv s (cl L S q a b))) ∧ Fr S1401 μ ν)) 3 [(0, .ref 123), (1, .int (nI q)), (2, .int (nI a)), (3, .int (nI b)), (4, .int (nI w)), (5, .int (nI n))] [] m := by
    intro d
    induction d with
    | zero =>
      intro n m hn hf h1
      have : n = 13 := by omega
      subst this
      exact gX11_follows_3 ⟨fun _ => k83 13 0 m rfl (hf.up (fun o _ w => Or.inr w)) h1 (fun i hi => by omega), fun z => absurd (by decide) z⟩
    | succ d ih =>
      intro n m hn hf h1
      have n13 : n < 13 := by omega
      have k21 : ∀ d k m, k + d = n + 1 - w → Fr (fun o _ => o = 141) μ m → (∀ i, i < n → m.2 141 i = flS w (cv s (cl L S q a b)) i) → m.2 141 n = sJ k (fun k => s k * cl L S q a b (n - w - k)) → Ex E MX11_follows (fun v ν => v = none ∧ (SEQ ν (flS w (cv s (cl L S q a b))) ∧ Fr S1401 μ ν)) 21 [(0, .ref 123), (1, .int (nI q)), (2, .int (nI a)), (3, .int (nI b)), (4, .int (nI w)), (5, .int (nI n)), (6, .int (nI k))] [] m := by
        intro d
        induction d with
        | zero =>
          intro k m hk hf h1 h2
          refine gX11_follows_21 ?_
          rw [nI_add, n_lt (by omega) (by omega)]
          refine ⟨fun _ v2 e2 => ?_, fun z => by omega⟩
          rw [e2, n_addc]
          refine ih (n + 1) m (by omega) hf (fun i hi => ?_)
          by_cases c : i = n
          · rw [c, h2, ← val n, show k = n + 1 - w by omega]
          · exact h1 i (by omega)
        | succ d ihk =>
          intro k m hk hf h1 h2
          refine gX11_follows_21 ?_
          rw [nI_add, n_lt (by omega) (by omega), pk_sub (a := n) (b := w) (by omega), pk_sub (by omega)]
          simp (disch := omega) only [n_in, nI_clamp]
          refine ⟨fun z => by omega, fun _ => ⟨by omega, by omega, Rt.i cM_index ?_⟩⟩
          simp (disch := omega) only [n_in, nI_clamp]
          refine ⟨by omega, fun v8 e8 v9 e9 => ?_⟩
          rw [h2, (hf _ _ (by omega)).2, hs k (by omega), (hf 139 _ (by omega)).2, hm q a b (n - w - k) hq ha hb (by omega)] at e8
          rw [e9, n_addc]
          refine ihk (k + 1) _ (by omega) (Fr.tr hf (Fr.J rfl)) (fun i hi => ?_) ?_
          · rw [mJ_2, if_neg (by omega)]; exact h1 i hi
          · rw [mJ_2, if_pos ⟨rfl, rfl⟩, e8]
            rfl
      refine gX11_follows_3 ?_
      simp (disch := omega) only [n_cle, n_in, nI_clamp]
      refine ⟨fun z => by omega, fun _ => ⟨by omega, k21 (n + 1 - w) 0 _ (by omega) (Fr.tr hf (Fr.J rfl)) (fun i hi => ?_) ?_⟩⟩
      · rw [mJ_2, if_neg (by omega)]; exact h1 i hi
      · rw [mJ_2, if_pos ⟨rfl, rfl⟩]; rfl
  exact k3 13 0 μ rfl Fr.rf (fun i hi => by omega)
end MANYM
