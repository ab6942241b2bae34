section MANY
variable {E : EV} {μ ν : Mem} {L : LD} {S : Nat} {tn : Nat → Nat} {tb : Nat → Nat → Nat} {n q c f t : Nat} {p : PA}
theorem Dk43 : Dok 43 := ⟨by decide, by decide, by decide, by decide⟩
def S4355 (o _k : Nat) : Prop := 43 ≤ o ∧ o ≤ 55
theorem cW_joinTowns (hC : CL μ L) (hS : S < 512) (h3 : μ.1 1 3 = nI S) : Sp E MX9_joinTowns [.ref 42] μ (fun v ν => v = none ∧ (WKE ν L S ∧ Fr S4355 μ ν)) := by
  refine Sp.go rfl rfl rfl (gX9_joinTowns_0 (Rt.i (cL_openLanes hC hS h3) (Sp.v (cD_lanes Dk43 (by decide) hC hS) (fun m3 h3' => ?_))))
  have key : ∀ d k m, k + d = 8 → Fr (fun o _ => o = 55) m3 m → (∀ c, c < k → m.1 55 c = nI (rch (lA L S) c)) → Ex E MX9_joinTowns (fun v ν => v = none ∧ (WKE ν L S ∧ Fr S4355 μ ν)) 20 [(0, .ref 42), (1, .int (nI k))] [] m := by
    intro d
    induction d with
    | zero =>
      intro k m hk hf hm
      have : k = 8 := by omega
      subst this
      have F : Fr S4355 μ m := Fr.tr (h3'.2.up (fun o _ w => by unfold SDd at w; unfold S4355; omega)) (hf.up (fun o _ w => by unfold S4355; omega))
      exact gX9_joinTowns_20 ⟨fun _ => ⟨rfl, ⟨hC.frS F (fun k => by unfold S4355; omega) (fun k => by unfold S4355; omega), hS, by rw [(F _ _ (by unfold S4355; omega)).1]; exact h3, hm⟩, F⟩, fun z => absurd (by decide) z⟩
    | succ d ih =>
      intro k m hk hf hm
      refine gX9_joinTowns_20 ?_
      rw [n_cle (by omega) (by decide)]
      refine ⟨fun z => absurd (show 8 ≤ k from z) (by omega), fun _ => Rt.i (cD_reachedFrom Dk43 (Fr.DMs h3'.1 hf (fun a k ha => by omega)) (by omega)) ?_⟩
      simp (disch := omega) only [n_in, nI_clamp]
      refine ⟨by omega, fun v5 e5 => ?_⟩
      rw [e5, n_addc]
      refine ih (k + 1) _ (by omega) (Fr.tr hf (Fr.I rfl)) (fun c hc => ?_)
      rw [mI_1]
      by_cases w : c = k
      · rw [if_pos ⟨rfl, w⟩, w]
      · rw [if_neg (fun v => w v.2)]
        exact hm c (by omega)
  exact key 8 0 m3 rfl Fr.rf (fun c hc => by omega)
/-- the ways to the stamps so far -/
def mTw (L : LD) (p : PA) (f j : Nat) : Nat := if j = 0 then f else lE L (p.2 (j - 1))
def mNt (p : PA) (j : Nat) : Nat := if j = 0 then 18 else bk (p.2 (j - 1))
def mSq (L : LD) (S : Nat) (p : PA) (f : Nat) : Nat → Nat → Int64
  | 0 => dl0
  | j + 1 => sf (cv (mSq L S p f j) (cl L S (mNt p j) (mTw L p f j) (lS L (p.2 j))))
def mOp (S : Nat) (p : PA) (j : Nat) : Prop := ∀ i, i < j → S.testBit (p.2 i / 2) = false
noncomputable def mnV (L : LD) (S : Nat) (p : PA) (f t n : Nat) : Int64 := if dB (mOp S p p.1) = true then cv (mSq L S p f p.1) (cl L S (mNt p p.1) (mTw L p f p.1) t) n else 0
theorem mSq_z {j : Nat} : ∀ j k, k < j → mSq L S p f j k = 0
  | 0, k, h => by omega
  | j + 1, k, h => by
    show (if k = 0 then 0 else cv (mSq L S p f j) _ (k - 1)) = 0
    split
    · rfl
    · exact sJ_zero _ (fun i hi => by rw [mSq_z (j := 0) j i (by omega), Int64.zero_mul])
def Pwt (L : LD) (p : PA) : Prop := ∀ i, i < p.1 → lW L (p.2 i) = true
theorem cW_number (hC : CL μ L) (hS : S < 512) (h3 : μ.1 1 3 = nI S) (hP : PCl μ 4 p) (hp : Pok L.1 30 p) (hw : Pwt L p) (hf : f < 8) (ht : t < 8) (hn : n ≤ 12) : Sp E MX9_number [.ref 42, .int (nI f), .ref 4, .int (nI t), .int (nI n)] μ (fun v ν => ∃ r : Int64, v = some (.long r) ∧ (r = mnV L S p f t n ∧ Fr SQ μ ν)) := by
  have hL := hC.ok
  have h9 := hL.1
  have p30 := hp.1
  have k4 : kd 4 = 5 := by decide
  have ok : ∀ k : Nat, k < 8 → ¬ b2 (Rg (nI k) 0 7) = 0 := fun k hk z => by
    rw [b2_0, Rg.nI (by omega)] at z
    omega
  refine Sp.go rfl rfl rfl (gX9_number_0 k4 (Rt.i (cP_size k4) ?_))
  rw [hP.1, n_lt (by omega) (by omega), n_cle (by omega) (by decide)]
  refine ⟨fun z => ⟨_, rfl, ?_, Fr.rf⟩, fun z => ⟨fun z2 => absurd (show 13 ≤ n from z2) (by omega), fun _ => Rt.i (cX_isTown _) ⟨fun z => absurd z (ok f hf), fun _ => Rt.i (cX_isTown _) ⟨fun _ => ?_, fun z => absurd z (ok t ht)⟩⟩⟩⟩
  · unfold mnV
    split
    · exact (sJ_zero _ (fun k hk => by rw [mSq_z (j := 0) p.1 k (by omega), Int64.zero_mul])).symm
    · rfl
  refine Sp.v (cW_joinTowns hC hS h3) (fun m11 h11 => Sp.v (cW_countRounds h11.1 hn) (fun m12 h12 => Rt.v (cJ_fillL (by decide) (show ln 77 = 13 by decide) (by decide)) ?_))
  obtain ⟨h12r, h12b, h12f⟩ := h12
  have f12 : Fr SQ μ m12 := Fr.tr (h11.2.up (fun o _ w => by unfold S4355 at w; unfold SQ; omega)) (h12f.up (fun o _ w => by unfold S5775 at w; unfold SQ; omega))
  have E12 : WKE m12 L S := h11.1.fr (h12f.up (fun o _ w => by unfold S5775 at w; unfold S5776; omega))
  have P12 : PCl m12 4 p := (hP.fr h11.2 (by unfold S4355; omega) (fun k => by unfold S4355; omega)).fr h12f (by unfold S5775; omega) (fun k => by unfold S5775; omega)
  have mk : ∀ m, Fr (fun o _ => o = 76 ∨ o = 77) m12 m → WKE m L S ∧ PCl m 4 p ∧ RND m L S n ∧ (∀ w, w < 2 * L.1 → OW L S w → ∀ r t, r + 2 ≤ n → t < 8 → m.2 (57 + w) (r * 8 + t) = cl L S (bk w) (lE L w) t r) ∧ Fr SQ μ m := fun m hf' => ⟨E12.fr (hf'.up (fun o _ w => by unfold S5776; omega)), P12.fr hf' (by omega) (fun k => by omega), fun r t h1 h2 h3 => by rw [(hf' _ _ (by omega)).2]; exact h12r r t h1 h2 h3, fun w hw ho r t hr ht => by rw [(hf' _ _ (by have := bk_lt hw; omega)).2]; exact h12b w hw ho r t hr ht, Fr.tr f12 (hf'.up (fun o _ w => by unfold SQ; omega))⟩
  have fA : Fr (fun o _ => o = 76 ∨ o = 77) m12 (mJ (mFJ m12 77 0 13 0) 77 0 1) := Fr.tr (Fr.FJ (fun _ _ _ => Or.inr rfl)) (Fr.J (Or.inr rfl))
  obtain ⟨EA, PA', RA, BA, FA⟩ := mk _ fA
  refine Sp.v (cW_countFrom (e := dl0) (q := 18) EA hn hf (fun k hk => ?_) RA (fun ν' hf' => Or.inl ⟨rfl, rfl⟩)) (fun m14 h14 => ?_)
  · rw [mJ_2]
    unfold dl0
    by_cases w : k = 0
    · rw [if_pos ⟨rfl, w⟩, if_pos w]
    · rw [if_neg (fun v => w v.2), if_neg w, mFJ_2, if_pos ⟨rfl, by omega, by omega⟩]
  have key : ∀ d j m, j + d = p.1 → Fr (fun o _ => o = 76 ∨ o = 77) m12 m → mOp S p j → ROW m 76 (n + 1) (wyR L S (mNt p j) (mTw L p f j) (mSq L S p f j)) → Ex E MX9_number (fun v ν => ∃ r : Int64, v = some (.long r) ∧ (r = mnV L S p f t n ∧ Fr SQ μ ν)) 68 [(0, .ref 42), (1, .int (nI f)), (2, .ref 4), (3, .int (nI t)), (4, .int (nI n)), (5, .int (nI j))] [] m := by
    intro d
    induction d with
    | zero =>
      intro j m hj hfm ho hm
      have : j = p.1 := by omega
      subst this
      obtain ⟨Em, Pm, Rm, Bm, Fm⟩ := mk m hfm
      refine gX9_number_68 k4 (Rt.i (cP_size k4) ?_)
      rw [Pm.1]
      simp (disch := omega) only [n_le, n_mulc, nI_add, n_in, nI_clamp]
      refine ⟨fun _ => ⟨by omega, _, rfl, ?_, Fm⟩, fun z => absurd trivial (by simpa using z)⟩
      rw [hm n t (by omega) ht]
      unfold mnV
      rw [if_pos (dB_t.2 ho)]
      rfl
    | succ d ih =>
      intro j m hj hfm ho hm
      obtain ⟨Em, Pm, Rm, Bm, Fm⟩ := mk m hfm
      have jl := hp.2 j (by omega)
      obtain ⟨s8, e8⟩ := hL.2 _ jl
      refine gX9_number_68 k4 (Rt.i (cP_size k4) ?_)
      rw [Pm.1, n_le (by omega) (by omega)]
      refine ⟨fun z => by omega, fun _ => Rt.i (cP_atP k4 Pm (by omega) (by omega)) ?_⟩
      rw [if_pos (by omega)]
      refine Rt.i (cL_isOpen Em.2.1 Em.2.2.1 (by omega)) ?_
      rw [b2_0]
      have lo : (lO S (p.2 j) = true) = (S.testBit (p.2 j / 2) = false) := by unfold lO; simp
      rw [lo]
      refine ⟨fun z => ?_, fun z => ⟨_, rfl, ?_, Fm⟩⟩
      · rw [Decidable.not_not] at z
        have ow : OW L S (p.2 j) := ⟨z, hw j (by omega)⟩
        have owb : OW L S (bk (p.2 j)) := ⟨by rw [bk2]; exact z, by have := ow.2; unfold lW at this ⊢; rw [bk2]; exact this⟩
        -- the stamp
        have stm : Sp E MX9_stampForGood [.ref 42, .int (nI (p.2 j)), .int (nI n)] m (fun v ν => v = none ∧ ((∀ k, k ≤ n → ν.2 77 k = mSq L S p f (j + 1) k) ∧ Fr (fun o _ => o = 77) m ν)) := by
          refine Sp.go rfl rfl rfl (gX9_stampForGood_0 (Rt.i (cL_from Em.1 jl) ?_))
          have lp : ∀ d k m', k + d = n + 1 → 1 ≤ k → Fr (fun o _ => o = 77) m m' → (∀ i, i < k → m'.2 77 i = mSq L S p f (j + 1) i) → Ex E MX9_stampForGood (fun v ν => v = none ∧ ((∀ k, k ≤ n → ν.2 77 k = mSq L S p f (j + 1) k) ∧ Fr (fun o _ => o = 77) m ν)) 19 [(0, .ref 42), (1, .int (nI (p.2 j))), (2, .int (nI n)), (3, .int (nI (lS L (p.2 j)))), (4, .int (nI k))] [] m' := by
            intro d
            induction d with
            | zero =>
              intro k m' hk h1 hf' hm'
              refine gX9_stampForGood_19 ?_
              rw [n_lt (by omega) (by omega)]
              exact ⟨fun _ => ⟨rfl, fun i hi => hm' i (by omega), hf'⟩, fun z => by omega⟩
            | succ d ihd =>
              intro k m' hk h1 hf' hm'
              refine gX9_stampForGood_19 ?_
              rw [n_lt (by omega) (by omega), show nI k - 1 = nI (k - 1) from pk_sub (b := 1) (by omega)]
              simp (disch := omega) only [n_mulc, nI_add, n_in, nI_clamp]
              refine ⟨fun z => by omega, fun _ => ⟨by omega, fun v3 e3 => ⟨by omega, fun v5 e5 => ?_⟩⟩⟩
              rw [e5, n_addc]
              refine ihd (k + 1) _ (by omega) (by omega) (Fr.tr hf' (Fr.J rfl)) (fun i hi => ?_)
              rw [mJ_2]
              by_cases w : i = k
              · rw [if_pos ⟨rfl, w⟩, e3, (hf' _ _ (by omega)).2, hm (k - 1) _ (by omega) s8, w]
                show _ = if k = 0 then 0 else _
                rw [if_neg (by omega)]
                rfl
              · rw [if_neg (fun v => w v.2)]
                exact hm' i (by omega)
          refine lp n 1 _ (by omega) (Nat.le_refl _) (Fr.J rfl) (fun i hi => ?_)
          rw [mJ_2, if_pos ⟨rfl, by omega⟩]
          show _ = if i = 0 then 0 else _
          rw [if_pos (by omega)]
        refine Sp.v stm (fun m10 h10 => ?_)
        have f10 : Fr (fun o _ => o = 76 ∨ o = 77) m12 m10 := Fr.tr hfm (h10.2.up (fun o _ w => Or.inr w))
        obtain ⟨Ex', Px, Rx, Bx, Fx⟩ := mk m10 f10
        refine Rt.i (cL_to Ex'.1 jl) (Sp.v (cW_countFrom (e := mSq L S p f (j + 1)) (q := bk (p.2 j)) Ex' hn e8 h10.1 Rx (fun ν' hf' => Or.inr ⟨p.2 j, jl, z, hw j (by omega), rfl, rfl, fun r hr => ?_⟩)) (fun m13 h13 v14 e14 => ?_))
        · rw [(hf' _ _ (by have := bk_lt jl; omega)).2, Bx (bk (p.2 j)) (bk_lt jl) owb r _ hr s8, bk_bk]
          have : lE L (bk (p.2 j)) = lS L (p.2 j) := by unfold lE; rw [bk_bk]
          rw [this]
        · rw [e14, n_addc]
          refine ih (j + 1) m13 (by omega) (Fr.tr f10 (h13.2.up (fun o _ w => Or.inl w))) (fun i hi => ?_) ?_
          · by_cases w : i = j
            · rw [w]; exact z
            · exact ho i (by omega)
          · have a1 : mNt p (j + 1) = bk (p.2 j) := rfl
            have a2 : mTw L p f (j + 1) = lE L (p.2 j) := rfl
            rw [a1, a2]
            exact h13.1
      · unfold mnV
        rw [if_neg]
        intro w
        exact z ((dB_t.1 w) j (by omega))
  exact key p.1 0 m14 (by omega) (Fr.tr fA (h14.2.up (fun o _ w => Or.inl w))) (fun i hi => by omega) h14.1
end MANY
