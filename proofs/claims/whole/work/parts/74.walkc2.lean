section WALKC2
variable {E : EV} {μ ν : Mem} {L : LD} {S : Nat} {tn : Nat → Nat} {tb : Nat → Nat → Nat} {R : Nat → Nat → Int64} {x n q c : Nat}
theorem cW_lengthen {x2 : Int32} {I : Nat → Int64} (hE : WKE μ L S) (hk : kd x = 21) (hx : ln x = 104) (h57 : 57 ≤ x ∧ x ≤ 77) (h75 : x ≠ 75) (hn : n ≤ 12) (hc : c < 8) (hR : ROW μ x n R) (hI : ∀ t, t < 8 → μ.2 x (n * 8 + t) = I t) (hr : RND μ L S n) (hl : ∀ ν, Fr (SRw x n) μ ν → LST ν L S n x2 q) (hz : ∀ k t, k < n → t < 8 → dst (lA L S) c t = none → R k t = 0) : Sp E MX9_lengthen [.ref 42, .ref x, .int (nI c), .int x2, .int (nI n)] μ (fun v ν => v = none ∧ ((∀ t, t < 8 → ν.2 x (n * 8 + t) = I t + lnS L S R (2 * L.1) n t + rdS L S q t R n) ∧ Fr (SRw x n) μ ν)) := by
  have hL := hE.1.ok
  have loop : ∀ m, Fr (SRw x n) μ m → (∀ t, t < 8 → m.2 x (n * 8 + t) = I t + lnS L S R (2 * L.1) n t) → Ex E MX9_lengthen (fun v ν => v = none ∧ ((∀ t, t < 8 → ν.2 x (n * 8 + t) = I t + lnS L S R (2 * L.1) n t + rdS L S q t R n) ∧ Fr (SRw x n) μ ν)) 15 [(0, .ref 42), (1, .ref x), (2, .int (nI c)), (3, .int x2), (4, .int (nI n)), (5, .int 0)] [] m := by
    intro m0 hf0 hm0
    have key : ∀ d k m, k + d = 8 → Fr (SRw x n) μ m → (∀ t, t < 8 → m.2 x (n * 8 + t) = if t < k then I t + lnS L S R (2 * L.1) n t + rdS L S q t R n else I t + lnS L S R (2 * L.1) n t) → Ex E MX9_lengthen (fun v ν => v = none ∧ ((∀ t, t < 8 → ν.2 x (n * 8 + t) = I t + lnS L S R (2 * L.1) n t + rdS L S q t R n) ∧ Fr (SRw x n) μ ν)) 15 [(0, .ref 42), (1, .ref x), (2, .int (nI c)), (3, .int x2), (4, .int (nI n)), (5, .int (nI k))] [] m := by
      intro d
      induction d with
      | zero =>
        intro k m hkd hf hm
        have : k = 8 := by omega
        subst this
        refine gX9_lengthen_15 hk hx ⟨fun _ => ⟨rfl, fun t ht => ?_, hf⟩, fun z => absurd (by decide) z⟩
        rw [hm t ht, if_pos ht]
      | succ d ih =>
        intro k m hkd hf hm
        have k8 : k < 8 := by omega
        have hE' := hE.fr (hf.up (T := S5776) (fun o k w => by unfold SRw at w; unfold S5776; omega))
        have rc := wb8 (fun t => (dst (lA L S) c t).isSome) 8 (by omega)
        refine gX9_lengthen_15 hk hx ?_
        simp (disch := omega) only [n_cle, n_mulc, nI_add, n_in, nI_clamp]
        rw [hE'.2.2.2 c hc]
        have rb := bitT (T := rch (lA L S) c) (k := k) rc k8
        rw [rb]
        unfold rch
        rw [wb_bit, decide_eq_true k8, Bool.true_and, Option.isSome_iff_ne_none]
        refine ⟨fun z => by omega, fun _ => ⟨hc, fun z v4 e4 => ?_, fun z => ⟨by omega, Rt.l (cW_behind (R := R) hE' hk hx hn k8 (fun j t hj ht => by rw [(hf _ _ (by unfold SRw; omega)).2]; exact hR j t hj ht) (fun r t h1 h2 h3 => by rw [(hf _ _ (by unfold SRw; omega)).2]; exact hr r t h1 h2 h3) (hl m hf)) (fun v8 e8 v9 e9 => ?_)⟩⟩⟩
        · rw [e4, n_addc]
          refine ih (k + 1) m (by omega) hf (fun t ht => ?_)
          rw [hm t ht]
          by_cases e : t = k
          · subst e
            rw [if_neg (by omega), if_pos (by omega)]
            have : rdS L S q t R n = 0 := by
              unfold rdS
              refine sJ_zero _ (fun j hj => ?_)
              rw [hz (n - 2 - j) t (by omega) ht (Decidable.not_not.1 z), Int64.zero_mul]
            rw [this, Int64.add_zero]
          · by_cases e2 : t < k
            · rw [if_pos e2, if_pos (by omega)]
            · rw [if_neg e2, if_neg (by omega)]
        · rw [e9, n_addc]
          refine ih (k + 1) _ (by omega) (Fr.tr hf (Fr.J ⟨rfl, by omega, by omega⟩)) (fun t ht => ?_)
          rw [mJ_2]
          by_cases e : t = k
          · subst e
            rw [if_pos ⟨rfl, rfl⟩, if_pos (by omega), e8, hm t ht, if_neg (by omega)]
          · rw [if_neg (by omega), hm t ht]
            by_cases e2 : t < k
            · rw [if_pos e2, if_pos (by omega)]
            · rw [if_neg e2, if_neg (by omega)]
    exact key 8 0 m0 rfl hf0 (fun t ht => by rw [if_neg (by omega)]; exact hm0 t ht)
  refine Sp.go rfl rfl rfl (gX9_lengthen_0 hk hx ?_)
  rw [n_le0 (by omega)]
  refine ⟨fun z => ?_, fun z => ?_⟩
  · subst z
    refine loop μ Fr.rf (fun t ht => ?_)
    have : lnS L S R (2 * L.1) 0 t = 0 := sJ_zero _ (fun l _ => by split <;> rfl)
    rw [this, Int64.add_zero]
    exact hI t ht
  · obtain ⟨j, rfl⟩ : ∃ j, n = j + 1 := ⟨n - 1, by omega⟩
    exact Sp.v (cW_goOn hE hk hx h57 hn hR hI) (fun m hm => loop m hm.2 hm.1)
theorem kd76 : kd 76 = 21 ∧ ln 76 = 104 := by decide
theorem kd57 : ∀ l, l < 18 → kd (57 + l) = 21 ∧ ln (57 + l) = 104 := by decide
/-- ways that begin in so many ways -/
def wyR (L : LD) (S q c : Nat) (e : Nat → Int64) (k t : Nat) : Int64 := cv e (cl L S q c t) k
theorem wyR_rec {e : Nat → Int64} {t : Nat} : wyR L S q c e n t = (if t = c then e n else 0) + lnS L S (wyR L S q c e) (2 * L.1) n t + rdS L S q t (wyR L S q c e) n := by
  rw [rdS_cv]
  have h0 : cl L S q c t = fun k => (if c = t then dl0 k else 0) + sI (2 * L.1) (fun l => lU L S l && decide (lE L l = t)) (fun l => sf (cl L S q c (lS L l)) k) + cv (cl L S q c t) (aR L S q t) k := funext (fun k => cl_right k c t)
  have h1 : wyR L S q c e n t = cv e (fun k => if c = t then dl0 k else 0) n + cv e (fun k => sI (2 * L.1) (fun l => lU L S l && decide (lE L l = t)) (fun l => sf (cl L S q c (lS L l)) k)) n + cv e (cv (cl L S q c t) (aR L S q t)) n := by
    unfold wyR
    conv => lhs; rw [h0]
    rw [cv_addr, cv_addr]
  rw [h1]
  congr 1
  · congr 1
    · by_cases w : c = t
      · subst w
        simp only [if_true]
        rw [cv_comm]
        exact cv_d0l
      · simp only [if_neg w, if_neg (fun v : t = c => w v.symm)]
        exact cv_zr
    · rw [sI_cvr]
      unfold lnS
      exact sI_congr (fun l _ _ => cv_sfr)
  · rw [← cv_assoc]
    rfl
theorem wyR_supp {e : Nat → Int64} {t : Nat} (hL : Lok L) (hc : c < 8) (h : dst (lA L S) c t = none) : wyR L S q c e n t = 0 := sJ_zero _ (fun k _ => by rw [cl_supp hL _ c t hc h, Int64.mul_zero])
theorem cW_countFrom {x2 : Int32} {e : Nat → Int64} (hE : WKE μ L S) (hn : n ≤ 12) (hc : c < 8) (he : ∀ k, k ≤ n → μ.2 77 k = e k) (hr : RND μ L S n) (hl : ∀ ν, Fr (fun o _ => o = 76) μ ν → LST ν L S n x2 q) : Sp E MX9_countFrom [.ref 42, .int (nI c), .int x2, .int (nI n)] μ (fun v ν => v = none ∧ (ROW ν 76 (n + 1) (wyR L S q c e) ∧ Fr (fun o _ => o = 76) μ ν)) := by
  have hL := hE.1.ok
  refine Sp.go rfl rfl rfl (gX9_countFrom_0 (Rt.v (cJ_fillL kd76.1 kd76.2 (by decide)) ?_))
  have key : ∀ d k m, k + d = n + 1 → Fr (fun o _ => o = 76) μ m → ROW m 76 k (wyR L S q c e) → (∀ j t, k ≤ j → j < 13 → t < 8 → m.2 76 (j * 8 + t) = 0) → Ex E MX9_countFrom (fun v ν => v = none ∧ (ROW ν 76 (n + 1) (wyR L S q c e) ∧ Fr (fun o _ => o = 76) μ ν)) 11 [(0, .ref 42), (1, .int (nI c)), (2, .int x2), (3, .int (nI n)), (4, .int (nI k))] [] m := by
    intro d
    induction d with
    | zero =>
      intro k m hk hf hm hz
      refine gX9_countFrom_11 ?_
      rw [n_lt (by omega) (by omega)]
      refine ⟨fun _ => ⟨rfl, ?_, hf⟩, fun z => by omega⟩
      rw [show k = n + 1 by omega] at hm
      exact hm
    | succ d ih =>
      intro k m hk hf hm hz
      refine gX9_countFrom_11 ?_
      simp (disch := omega) only [n_lt, n_mulc, nI_add, n_in, nI_clamp]
      refine ⟨fun z => by omega, fun _ => ⟨by omega, fun v3 e3 => ⟨by omega, ?_⟩⟩⟩
      rw [(hf _ _ (by omega)).2, he k (by omega)] at e3
      subst e3
      have f1 : Fr (fun o _ => o = 76) μ (mJ m 76 (k * 8 + c) (e k)) := Fr.tr hf (Fr.J rfl)
      have hE' := hE.fr (f1.up (T := S5776) (fun o k w => by unfold S5776; omega))
      refine Sp.v (cW_lengthen (R := wyR L S q c e) (I := fun t => if t = c then e k else 0) (q := q) hE' kd76.1 kd76.2 (by omega) (by omega) (by omega) hc (fun j t hj ht => ?_) (fun t ht => ?_) (fun r t h1 h2 h3 => ?_) (fun ν' hf' => ?_) (fun j t _ _ w => wyR_supp hL hc w)) (fun m5 h5 v6 e6 => ?_)
      · rw [mJ_2, if_neg (by omega)]
        exact hm j t hj ht
      · rw [mJ_2]
        by_cases w : t = c
        · rw [if_pos ⟨rfl, by omega⟩, if_pos w]
        · rw [if_neg (by omega), if_neg w]
          exact hz k t (Nat.le_refl _) (by omega) ht
      · rw [(f1 _ _ (by omega)).2]
        exact hr r t h1 (by omega) h3
      · have := hl ν' (Fr.tr f1 (hf'.up (fun o _ w => w.1)))
        rcases this with w | ⟨w, w1, w2, w3, w4, w5, w6⟩
        · exact Or.inl w
        · exact Or.inr ⟨w, w1, w2, w3, w4, w5, fun r hr' => w6 r (by omega)⟩
      · rw [e6, n_addc]
        refine ih (k + 1) m5 (by omega) (Fr.tr f1 (h5.2.up (fun o _ w => w.1))) (fun j t hj ht => ?_) (fun j t hj h13 ht => ?_)
        · by_cases w : j = k
          · subst w
            rw [h5.1 t ht, wyR_rec]
          · rw [(h5.2 _ _ (by unfold SRw; omega)).2, mJ_2, if_neg (by omega)]
            exact hm j t (by omega) ht
        · rw [(h5.2 _ _ (by unfold SRw; omega)).2, mJ_2, if_neg (by omega)]
          exact hz j t (by omega) h13 ht
  refine key (n + 1) 0 _ (by omega) (Fr.FJ (fun _ _ _ => rfl)) (fun j t hj => by omega) (fun j t _ h13 ht => ?_)
  rw [mFJ_2, if_pos ⟨rfl, by omega, by omega⟩]
theorem bk2 {l : Nat} : bk l / 2 = l / 2 := by unfold bk; split <;> omega
def BHm (m : Mem) (L : LD) (S l j : Nat) : Prop := ∀ k t, k < 13 → t < 8 → m.2 (57 + l) (k * 8 + t) = if k < j then cl L S (bk l) (lE L l) t k else (if k = 0 ∧ t = lE L l then 1 else 0)
def OW (L : LD) (S l : Nat) : Prop := S.testBit (l / 2) = false ∧ lW L l = true
def S5775 (o _k : Nat) : Prop := 57 ≤ o ∧ o ≤ 75
theorem cW_countRounds (hE : WKE μ L S) (hn : n ≤ 12) : Sp E MX9_countRounds [.ref 42, .int (nI n)] μ (fun v ν => v = none ∧ (RND ν L S n ∧ (∀ w, w < 2 * L.1 → OW L S w → ∀ r t, r + 2 ≤ n → t < 8 → ν.2 (57 + w) (r * 8 + t) = cl L S (bk w) (lE L w) t r) ∧ Fr S5775 μ ν)) := by
  have hL := hE.1.ok
  have h9 := hL.1
  have mkE : ∀ m, Fr S5775 μ m → WKE m L S := fun m hf => hE.fr (hf.up (fun o k w => by unfold S5775 at w; unfold S5776; omega))
  refine Sp.go rfl rfl rfl (gX9_countRounds_0 (Rt.v (cJ_fillL (by decide) (show ln 75 = 104 by decide) (by decide)) ?_))
  have k55 : ∀ d j m, j + d = n → Fr S5775 μ m → (∀ w, w < 2 * L.1 → OW L S w → BHm m L S w j) → (∀ r t, r < 13 → t < 8 → m.2 75 (r * 8 + t) = if r < j + 2 then aR L S 18 t r else 0) → Ex E MX9_countRounds (fun v ν => v = none ∧ (RND ν L S n ∧ (∀ w, w < 2 * L.1 → OW L S w → ∀ r t, r + 2 ≤ n → t < 8 → ν.2 (57 + w) (r * 8 + t) = cl L S (bk w) (lE L w) t r) ∧ Fr S5775 μ ν)) 55 [(0, .ref 42), (1, .int (nI n)), (2, .int (nI j))] [] m := by
    have fin : ∀ j m, n < j + 2 → Fr S5775 μ m → (∀ w, w < 2 * L.1 → OW L S w → BHm m L S w j) → (∀ r t, r < 13 → t < 8 → m.2 75 (r * 8 + t) = if r < j + 2 then aR L S 18 t r else 0) → (none : Option Value) = none ∧ (RND m L S n ∧ (∀ w, w < 2 * L.1 → OW L S w → ∀ r t, r + 2 ≤ n → t < 8 → m.2 (57 + w) (r * 8 + t) = cl L S (bk w) (lE L w) t r) ∧ Fr S5775 μ m) := by
      intro j m hj hf hB hR
      refine ⟨rfl, fun r t h1 h2 ht => ?_, fun w hw ho r t hr ht => ?_, hf⟩
      · rw [hR r t (by omega) ht, if_pos (by omega)]
      · rw [hB w hw ho r t (by omega) ht, if_pos (by omega)]
    intro d
    induction d with
    | zero =>
      intro j m hj hf hB hR
      refine gX9_countRounds_55 ?_
      rw [n_addc, n_lt (by omega) (by omega)]
      exact ⟨fun z => fin j m z hf hB hR, fun z => by omega⟩
    | succ d ih =>
      intro j m hj hf hB hR
      refine gX9_countRounds_55 ?_
      rw [n_addc, n_lt (by omega) (by omega)]
      refine ⟨fun z => fin j m z hf hB hR, fun z => ?_⟩
      have k64 : ∀ d l m, l + d = 2 * L.1 → Fr S5775 μ m → (∀ w, w < 2 * L.1 → OW L S w → BHm m L S w (if w < l then j + 1 else j)) → (∀ r t, r < 13 → t < 8 → m.2 75 (r * 8 + t) = if r < j + 2 then aR L S 18 t r else if r = j + 2 then sJ l (fun l => if lS L l = t ∧ S.testBit (l / 2) = false ∧ lW L l = true ∧ ¬ l = 18 then cl L S (bk l) (lE L l) (lE L l) j else 0) else 0) → Ex E MX9_countRounds (fun v ν => v = none ∧ (RND ν L S n ∧ (∀ w, w < 2 * L.1 → OW L S w → ∀ r t, r + 2 ≤ n → t < 8 → ν.2 (57 + w) (r * 8 + t) = cl L S (bk w) (lE L w) t r) ∧ Fr S5775 μ ν)) 64 [(0, .ref 42), (1, .int (nI n)), (2, .int (nI j)), (3, .int (nI l))] [] m := by
        intro d
        induction d with
        | zero =>
          intro l m hl hf hB hR
          have : l = 2 * L.1 := by omega
          subst this
          refine gX9_countRounds_64 (Rt.i (cL_letters (mkE m hf).1) ?_)
          rw [n_le (by omega) (by omega)]
          refine ⟨fun _ v4 e4 => ?_, fun z => absurd (Nat.le_refl _) z⟩
          rw [e4, n_addc]
          refine ih (j + 1) m (by omega) hf (fun w hw ho => ?_) (fun r t h13 ht => ?_)
          · have := hB w hw ho
            rw [if_pos hw] at this
            exact this
          · rw [hR r t h13 ht]
            by_cases c1 : r < j + 2
            · rw [if_pos c1, if_pos (by omega)]
            · rw [if_neg c1]
              by_cases c2 : r = j + 2
              · rw [if_pos c2, if_pos (by omega), c2]
                unfold aR
                rw [if_neg (by omega)]
                rfl
              · rw [if_neg c2, if_neg (by omega)]
        | succ d ihl =>
          intro l m hl hf hB hR
          have l2 : l < 2 * L.1 := by omega
          obtain ⟨s8, e8⟩ := hL.2 l l2
          have hE' := mkE m hf
          refine gX9_countRounds_64 (Rt.i (cL_letters hE'.1) ?_)
          rw [n_le (by omega) (by omega)]
          have skip : ¬ OW L S l → ∀ v : Int32, v = nI l + 1 → Ex E MX9_countRounds (fun v ν => v = none ∧ (RND ν L S n ∧ (∀ w, w < 2 * L.1 → OW L S w → ∀ r t, r + 2 ≤ n → t < 8 → ν.2 (57 + w) (r * 8 + t) = cl L S (bk w) (lE L w) t r) ∧ Fr S5775 μ ν)) 64 [(0, .ref 42), (1, .int (nI n)), (2, .int (nI j)), (3, .int v)] [] m := by
            intro hno v hv
            rw [hv, n_addc]
            refine ihl (l + 1) m (by omega) hf (fun w hw ho => ?_) (fun r t h13 ht => ?_)
            · have := hB w hw ho
              by_cases c : w = l
              · subst c; exact absurd ho hno
              · by_cases c2 : w < l
                · rw [if_pos c2] at this; rw [if_pos (by omega)]; exact this
                · rw [if_neg c2] at this; rw [if_neg (by omega)]; exact this
            · rw [hR r t h13 ht]
              have st : sJ (l + 1) (fun l => if lS L l = t ∧ S.testBit (l / 2) = false ∧ lW L l = true ∧ ¬ l = 18 then cl L S (bk l) (lE L l) (lE L l) j else 0) = sJ l (fun l => if lS L l = t ∧ S.testBit (l / 2) = false ∧ lW L l = true ∧ ¬ l = 18 then cl L S (bk l) (lE L l) (lE L l) j else 0) + (if lS L l = t ∧ S.testBit (l / 2) = false ∧ lW L l = true ∧ ¬ l = 18 then cl L S (bk l) (lE L l) (lE L l) j else 0) := rfl
              rw [st, if_neg (show ¬ (lS L l = t ∧ S.testBit (l / 2) = false ∧ lW L l = true ∧ ¬ l = 18) from fun w => hno ⟨w.2.1, w.2.2.1⟩), Int64.add_zero]
          refine ⟨fun z => by omega, fun _ => Rt.i (cL_isOpen hE'.2.1 hE'.2.2.1 (by omega)) ?_⟩
          rw [b2_0]
          have lo : (lO S l = true) = (S.testBit (l / 2) = false) := by unfold lO; simp
          rw [lo]
          refine ⟨fun z => skip (fun w => z w.1), fun z => Rt.i (cL_isWatched hE'.1 l2) ?_⟩
          rw [b2_0]
          refine ⟨fun z2 => skip (fun w => z2 w.2), fun z2 => Rt.i (cL_to hE'.1 l2) ?_⟩
          rw [Decidable.not_not] at z z2
          have ow : OW L S l := ⟨z, z2⟩
          have owb : OW L S (bk l) := ⟨by rw [bk2]; exact z, by unfold lW; rw [bk2]; exact z2⟩
          have bl := bk_lt l2
          have bne : bk l ≠ l := by unfold bk; split <;> omega
          obtain ⟨kd1, kd2⟩ := kd57 l (by omega)
          have Bl := hB l l2 ow
          rw [if_neg (by omega)] at Bl
          have Bb := hB (bk l) bl owb
          simp (disch := omega) only [n_addc, n_mulc, nI_add, n_in, nI_clamp]
          refine ⟨by omega, Sp.v (cW_lengthen (R := fun k t => cl L S (bk l) (lE L l) t k) (I := fun t => if j = 0 ∧ t = lE L l then 1 else 0) (q := bk l) hE' kd1 kd2 (by omega) (by omega) (by omega) e8 (fun k t hk ht => ?_) (fun t ht => ?_) (fun r t h1 h2 h3 => ?_) (fun ν' hf' => Or.inr ⟨l, l2, z, z2, rfl, rfl, fun r hr => ?_⟩) (fun k t _ _ w => cl_supp hL _ _ _ e8 w)) (fun m16 h16 => ?_)⟩
          · rw [Bl k t (by omega) ht, if_pos hk]
          · rw [Bl j t (by omega) ht, if_neg (by omega)]
          · rw [hR r t (by omega) h3, if_pos (by omega)]
          · rw [(hf' _ _ (by unfold SRw; omega)).2, Bb r (lS L l) (by omega) s8, if_pos (by split <;> omega), bk_bk]
            have : lE L (bk l) = lS L l := by unfold lE; rw [bk_bk]
            rw [this]
          · have f16 : Fr S5775 μ m16 := Fr.tr hf (h16.2.up (fun o k w => by unfold SRw at w; unfold S5775; omega))
            have hE16 := mkE m16 f16
            have new : ∀ t, t < 8 → m16.2 (57 + l) (j * 8 + t) = cl L S (bk l) (lE L l) t j := fun t ht => by
              rw [h16.1 t ht, cl_right j (lE L l) t, rdS_cv]
              congr 2
              by_cases c : t = lE L l
              · subst c
                rw [if_pos rfl]
                unfold dl0
                by_cases c2 : j = 0
                · rw [if_pos ⟨c2, rfl⟩, if_pos c2]
                · rw [if_neg (fun w => c2 w.1), if_neg c2]
              · rw [if_neg (fun w => c w.2), if_neg (fun w => c w.symm)]
            refine Rt.i (cL_from hE16.1 l2) ?_
            simp (disch := omega) only [n_addc, n_mulc, nI_add, n_in, nI_clamp]
            refine ⟨by omega, by omega, fun v21 e21 v22 e22 => ?_⟩
            rw [e22]
            rw [new _ e8, (h16.2 _ _ (by unfold SRw; omega)).2, hR (j + 2) (lS L l) (by omega) s8, if_neg (by omega), if_pos rfl] at e21
            refine ihl (l + 1) _ (by omega) (Fr.tr f16 (Fr.J (by unfold S5775; omega))) (fun w hw ho k t hk ht => ?_) (fun r t h13 ht => ?_)
            · rw [mJ_2, if_neg (by omega)]
              by_cases c : w = l
              · subst c
                rw [if_pos (show w < w + 1 by omega)]
                by_cases c2 : k = j
                · subst c2
                  rw [new t ht, if_pos (by omega)]
                · rw [(h16.2 _ _ (by unfold SRw; omega)).2, Bl k t hk ht]
                  by_cases c3 : k < j
                  · rw [if_pos c3, if_pos (by omega)]
                  · rw [if_neg c3, if_neg (show ¬ k < j + 1 by omega)]
              · rw [(h16.2 _ _ (by unfold SRw; omega)).2, hB w hw ho k t hk ht]
                by_cases c2 : w < l
                · rw [if_pos c2, if_pos (show w < l + 1 by omega)]
                · rw [if_neg c2, if_neg (show ¬ w < l + 1 by omega)]
            · have st : sJ (l + 1) (fun l => if lS L l = t ∧ S.testBit (l / 2) = false ∧ lW L l = true ∧ ¬ l = 18 then cl L S (bk l) (lE L l) (lE L l) j else 0) = sJ l (fun l => if lS L l = t ∧ S.testBit (l / 2) = false ∧ lW L l = true ∧ ¬ l = 18 then cl L S (bk l) (lE L l) (lE L l) j else 0) + (if lS L l = t ∧ S.testBit (l / 2) = false ∧ lW L l = true ∧ ¬ l = 18 then cl L S (bk l) (lE L l) (lE L l) j else 0) := rfl
              rw [mJ_2, st]
              by_cases c : r = j + 2 ∧ t = lS L l
              · obtain ⟨c1, c2⟩ := c
                subst c1
                subst c2
                rw [if_pos ⟨rfl, rfl⟩, if_neg (by omega), if_pos rfl, e21, if_pos (show lS L l = lS L l ∧ S.testBit (l / 2) = false ∧ lW L l = true ∧ ¬ l = 18 from ⟨rfl, z, z2, by omega⟩)]
              · rw [if_neg (by omega), (h16.2 _ _ (by unfold SRw; omega)).2, hR r t h13 ht]
                by_cases c1 : r < j + 2
                · rw [if_pos c1, if_pos c1]
                · rw [if_neg c1, if_neg c1]
                  by_cases c2 : r = j + 2
                  · rw [if_pos c2, if_pos c2, if_neg (show ¬ (lS L l = t ∧ S.testBit (l / 2) = false ∧ lW L l = true ∧ ¬ l = 18) from fun w => c ⟨c2, w.1.symm⟩), Int64.add_zero]
                  · rw [if_neg c2, if_neg c2]
      refine k64 (2 * L.1) 0 m (by omega) hf (fun w hw ho => ?_) (fun r t h13 ht => ?_)
      · rw [if_neg (by omega)]; exact hB w hw ho
      · rw [hR r t h13 ht]
        by_cases c1 : r < j + 2
        · rw [if_pos c1, if_pos c1]
        · rw [if_neg c1, if_neg c1]
          by_cases c2 : r = j + 2
          · rw [if_pos c2]; rfl
          · rw [if_neg c2]
  have k10 : ∀ d l m, l + d = 2 * L.1 → Fr S5775 μ m → (∀ w, w < l → BHm m L S w 0) → (∀ r t, r < 13 → t < 8 → m.2 75 (r * 8 + t) = 0) → Ex E MX9_countRounds (fun v ν => v = none ∧ (RND ν L S n ∧ (∀ w, w < 2 * L.1 → OW L S w → ∀ r t, r + 2 ≤ n → t < 8 → ν.2 (57 + w) (r * 8 + t) = cl L S (bk w) (lE L w) t r) ∧ Fr S5775 μ ν)) 10 [(0, .ref 42), (1, .int (nI n)), (2, .int (nI l))] [] m := by
    intro d
    induction d with
    | zero =>
      intro l m hl hf hB hR
      refine gX9_countRounds_10 (Rt.i (cL_letters (mkE m hf).1) ?_)
      rw [n_le (by omega) (by omega)]
      refine ⟨fun _ => k55 n 0 m (by omega) hf (fun w hw _ => hB w (by omega)) (fun r t h13 ht => ?_), fun z => by omega⟩
      rw [hR r t h13 ht]
      by_cases c : r < 0 + 2
      · rw [if_pos c]
        unfold aR
        rw [if_pos (by omega)]
      · rw [if_neg c]
    | succ d ih =>
      intro l m hl hf hB hR
      have l2 : l < 2 * L.1 := by omega
      obtain ⟨s8, e8⟩ := hL.2 l l2
      obtain ⟨kd1, kd2⟩ := kd57 l (by omega)
      refine gX9_countRounds_10 (Rt.i (cL_letters (mkE m hf).1) ?_)
      rw [n_le (by omega) (by omega)]
      simp (disch := omega) only [n_in, nI_clamp]
      have f1 : Fr S5775 μ (mFJ m (57 + l) 0 104 0) := Fr.tr hf (Fr.FJ (fun _ _ _ => by unfold S5775; omega))
      refine ⟨fun z => by omega, fun _ => ⟨by omega, Rt.v (cJ_fillL kd1 kd2 (by decide)) (Rt.i (cL_to (mkE _ f1).1 l2) ?_)⟩⟩
      simp (disch := omega) only [n_in, nI_clamp]
      refine ⟨by omega, fun v9 e9 => ?_⟩
      rw [e9, n_addc]
      refine ih (l + 1) _ (by omega) (Fr.tr f1 (Fr.J (by unfold S5775; omega))) (fun w hw k t hk ht => ?_) (fun r t h13 ht => ?_)
      · rw [mJ_2]
        by_cases c : w = l
        · subst c
          rw [if_neg (show ¬ k < 0 by omega)]
          by_cases c2 : k = 0 ∧ t = lE L w
          · rw [if_pos ⟨rfl, by omega⟩, if_pos c2]
          · rw [if_neg (by omega), if_neg c2, mFJ_2, if_pos ⟨rfl, by omega, by omega⟩]
        · rw [if_neg (by omega), mFJ_2, if_neg (by omega)]
          exact hB w (by omega) k t hk ht
      · rw [mJ_2, if_neg (by omega), mFJ_2, if_neg (by omega)]
        exact hR r t h13 ht
  refine k10 (2 * L.1) 0 _ (by omega) (Fr.FJ (fun _ _ _ => by unfold S5775; omega)) (fun w hw => by omega) (fun r t h13 ht => ?_)
  rw [mFJ_2, if_pos ⟨rfl, by omega, by omega⟩]
end WALKC2
