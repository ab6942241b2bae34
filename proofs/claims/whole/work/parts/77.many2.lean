section MANY2
variable {E : EV} {μ ν : Mem} {L : LD} {S : Nat} {tn : Nat → Nat} {tb : Nat → Nat → Nat} {n f t : Nat} {p : PA}
theorem Pwt_stA {l : Nat} (h : Pwt L p) : Pwt L (stA L p l) := by
  unfold stA
  split
  · rename_i hw
    unfold stR
    split
    · rename_i c
      intro i hi
      have hi : i < p.1 - 1 := hi
      exact h i (by omega)
    · intro i hi
      have hi : i < p.1 + 1 := hi
      show lW L (if i = p.1 then l else p.2 i) = true
      by_cases c : i = p.1
      · rw [if_pos c]; exact hw
      · rw [if_neg c]; exact h i (by omega)
  · exact h
theorem Pwt_pw {b : Nat → Nat} : ∀ k, Pwt L (pw L b k)
  | 0 => fun i hi => absurd hi (Nat.not_lt_zero i)
  | k + 1 => Pwt_stA (Pwt_pw k)
theorem Pwt_PW {a : Nat} : Pwt L (PW L tn tb a) := by
  unfold PW
  split
  · exact fun i hi => absurd hi (Nat.not_lt_zero i)
  · exact Pwt_pw _
theorem mNt_le {j : Nat} (hp : Pok L.1 30 p) (h9 : L.1 ≤ 9) (hj : j ≤ p.1) : mNt p j ≤ 18 := by
  unfold mNt
  split
  · exact Nat.le_refl _
  · have := bk_lt (hp.2 (j - 1) (by omega))
    omega
theorem mTw_lt {j : Nat} (hL : Lok L) (hp : Pok L.1 30 p) (hf : f < 8) (hj : j ≤ p.1) : mTw L p f j < 8 := by
  unfold mTw
  split
  · exact hf
  · exact (hL.2 _ (hp.2 (j - 1) (by omega))).2
def S13x (o _k : Nat) : Prop := 139 ≤ o ∧ o ≤ 141
theorem cM_manyOf {a : Nat} (h : RC μ tn tb S) (ha : a < 4) (hf : f < 8) (ht : t < 8) (hn : n ≤ 12) : Sp E MX11_manyOf [.ref 123, .int (nI f), .int (nI a), .int (nI t), .int (nI n)] μ (fun v ν => ∃ r : Int64, v = some (.long r) ∧ (r = mnV (LN tn tb) S (PW (LN tn tb) tn tb a) f t n ∧ Fr SQ μ ν)) := by
  have hp := h.pok ha
  have hS := h.2.2.2.1
  refine Sp.go rfl rfl rfl (gX11_manyOf_0 (Sp.v (cM_findPaper (w := 0) (by decide) ha h) (fun m1 h1 => ?_)))
  obtain ⟨P1, M1, F1⟩ := h1
  have f1 : Fr SQ μ m1 := F1.up (fun _ _ => SP_up)
  have s1 := (h.fr f1).2.2.2.2.2
  generalize PW (LN tn tb) tn tb a = p at hp P1 ⊢
  generalize LN tn tb = L at *
  have hL := M1.ok
  have h9 := hL.1
  have p30 := hp.1
  have mk : ∀ m, Fr S13x m1 m → ML m L ∧ m.1 123 13 = nI S ∧ PMd m 0 p ∧ Fr SQ μ m := fun m hf => ⟨M1.frS hf (by unfold S13x; omega) (by unfold S13x; omega) (fun k => by unfold S13x; omega), by rw [(hf _ _ (by unfold S13x; omega)).1]; exact s1, P1.fr (by omega) hf (by unfold S13x; omega) (fun k _ _ => by unfold S13x; omega), Fr.tr f1 (hf.up (fun o k w => by unfold S13x at w; unfold SQ; omega))⟩
  have ways : ∀ d j m, j + d = p.1 → Fr S13x m1 m → CLm m L S 13 → SEQ m (mSq L S p f j) → mOp S p j → Ex E MX11_manyOf (fun v ν => ∃ r : Int64, v = some (.long r) ∧ (r = mnV L S p f t n ∧ Fr SQ μ ν)) 55 [(0, .ref 123), (1, .int (nI f)), (2, .int (nI a)), (3, .int (nI t)), (4, .int (nI n)), (5, .int (nI (mTw L p f j))), (6, .int (nI (mNt p j))), (7, .int (nI j))] [] m := by
    intro d
    induction d with
    | zero =>
      intro j m hj hfm hc hs ho
      have : j = p.1 := by omega
      subst this
      obtain ⟨M, s, P, F⟩ := mk m hfm
      refine gX11_manyOf_55 ?_
      rw [P.1, n_le (by omega) (by omega)]
      refine ⟨fun _ => Sp.v (cM_follows (w := 0) hc hs (mNt_le hp h9 (Nat.le_refl _)) (mTw_lt hL hp hf (Nat.le_refl _)) ht (by decide)) (fun m2 h2 => ?_), fun z => absurd (Nat.le_refl _) z⟩
      simp (disch := omega) only [n_in, nI_clamp]
      refine ⟨by omega, _, rfl, ?_, Fr.tr F (h2.2.up (fun o k w => by unfold S1401 at w; unfold SQ; omega))⟩
      rw [h2.1 n (by omega)]
      unfold mnV
      rw [if_pos (dB_t.2 ho)]
      rfl
    | succ d ih =>
      intro j m hj hfm hc hs ho
      obtain ⟨M, s, P, F⟩ := mk m hfm
      have jl := hp.2 j (by omega)
      obtain ⟨s8, e8⟩ := hL.2 _ jl
      have rd := P.2 j (by omega)
      rw [show 60 * 0 + j = j by omega] at rd
      refine gX11_manyOf_55 ?_
      rw [P.1]
      simp (disch := omega) only [n_le, n_in, nI_clamp]
      refine ⟨fun z => by omega, fun _ => ⟨by omega, fun v5 e5 => ?_⟩⟩
      rw [rd] at e5
      subst e5
      rw [n_divc (by omega) (by decide) (by decide)]
      refine Rt.i (cM_isShut hS s (by omega)) ?_
      rw [b2_0]
      refine ⟨fun z => Rt.i (cM_start M jl) (Sp.v (cM_follows (w := 1) hc hs (mNt_le hp h9 (by omega)) (mTw_lt hL hp hf (by omega)) s8 (by decide)) (fun m11 h11 => ?_)), fun z => ⟨_, rfl, ?_, F⟩⟩
      · have z : S.testBit (p.2 j / 2) = false := by simpa using z
        have f11 : Fr S13x m1 m11 := Fr.tr hfm (h11.2.up (fun o k w => by unfold S1401 at w; unfold S13x; omega))
        obtain ⟨M', s', P', F'⟩ := mk m11 f11
        refine Rt.i (cM_end M' jl) (Rt.i (cM_back (by omega)) (fun v16 e16 => ?_))
        rw [e16, n_addc]
        refine ih (j + 1) m11 (by omega) f11 (fun q a b k h1 h2 h3 h4 => by rw [(h11.2 _ _ (by unfold S1401; omega)).2]; exact hc q a b k h1 h2 h3 h4) h11.1 (fun i hi => ?_)
        by_cases w : i = j
        · rw [w]; exact z
        · exact ho i (by omega)
      · unfold mnV
        rw [if_neg]
        intro w
        have := (dB_t.1 w) j (by omega)
        rw [this] at z
        exact z (fun w => by cases w)
  have init : ∀ d k m, k + d = 13 → Fr S13x m1 m → CLm m L S k → (∀ i, i < k → m.2 140 i = dl0 i) → Ex E MX11_manyOf (fun v ν => ∃ r : Int64, v = some (.long r) ∧ (r = mnV L S p f t n ∧ Fr SQ μ ν)) 9 [(0, .ref 123), (1, .int (nI f)), (2, .int (nI a)), (3, .int (nI t)), (4, .int (nI n)), (5, .int (nI k))] [] m := by
    intro d
    induction d with
    | zero =>
      intro k m hk hfm hc hs
      have : k = 13 := by omega
      subst this
      exact gX11_manyOf_9 ⟨fun _ => ways p.1 0 m (by omega) hfm hc hs (fun i hi => by omega), fun z => absurd (by decide) z⟩
    | succ d ih =>
      intro k m hk hfm hc hs
      obtain ⟨M, s, P, F⟩ := mk m hfm
      refine gX11_manyOf_9 ?_
      rw [n_clt (by omega) (by decide), n_eq0 (by omega)]
      refine ⟨fun z => absurd (show 12 < k from z) (by omega), fun _ => Sp.v (cM_findClosed M hS s (by omega) hc) (fun m2 h2 => ?_)⟩
      have nx : ∀ x : Int64, x = dl0 k → ∀ v : Int32, v = nI k + 1 → Ex E MX11_manyOf (fun v ν => ∃ r : Int64, v = some (.long r) ∧ (r = mnV L S p f t n ∧ Fr SQ μ ν)) 9 [(0, .ref 123), (1, .int (nI f)), (2, .int (nI a)), (3, .int (nI t)), (4, .int (nI n)), (5, .int v)] [] (mJ m2 140 k x) := by
        intro x hx v hv
        rw [hv, n_addc]
        refine ih (k + 1) _ (by omega) (Fr.tr hfm (Fr.tr (h2.2.up (fun o _ w => by unfold S139 at w; unfold S13x; omega)) (Fr.J (by unfold S13x; omega)))) (fun q a b i h1 h2' h3 h4 => ?_) (fun i hi => ?_)
        · rw [mJ_2, if_neg (by omega)]
          exact h2.1 q a b i h1 h2' h3 h4
        · rw [mJ_2]
          by_cases w : i = k
          · rw [if_pos ⟨rfl, w⟩, hx, w]
          · rw [if_neg (fun v => w v.2), (h2.2 _ _ (by unfold S139; omega)).2]
            exact hs i (by omega)
      simp (disch := omega) only [n_in, nI_clamp]
      refine ⟨fun z => ⟨by omega, nx 0 (by unfold dl0; rw [if_neg z])⟩, fun z => ⟨by omega, nx 1 (by unfold dl0; rw [if_pos z])⟩⟩
  exact init 13 0 m1 rfl Fr.rf (fun q a b k h1 h2 h3 h4 => by omega) (fun i hi => by omega)
theorem cX_many {a : Nat} (h : RC μ tn tb S) (ha : 1 ≤ a ∧ a < 4) (hf : f < 8) (ht : t < 8) (hn : n ≤ 12) : Sp E MX10_many [.ref 0, .int (nI f), .int (nI a), .int (nI t), .int (nI n)] μ (fun v ν => ∃ r : Int64, v = some (.long r) ∧ (r = mnV (LN tn tb) S (PW (LN tn tb) tn tb a) f t n ∧ Fr SQ μ ν)) := by
  have ok : ∀ k : Nat, k < 8 → ¬ b2 (Rg (nI k) 0 7) = 0 := fun k hk z => by
    rw [b2_0, Rg.nI (by omega)] at z
    omega
  refine Sp.go rfl rfl rfl (gX10_many_0 (Rt.i (cX_isTown _) ⟨fun z => absurd z (ok f hf), fun _ => Rt.i (cX_isWay _) ⟨fun z => ?_, fun _ => Rt.i (cX_isTown _) ⟨fun z => absurd z (ok t ht), fun _ => ?_⟩⟩⟩))
  · rw [b2_0, Rg.nI (by omega)] at z
    omega
  rw [n_lt0 (by omega), n_lec (by omega) (by decide)]
  refine ⟨fun z => z.elim, fun _ => ⟨fun _ => Sp.v (cX_stampWay h (Or.inl rfl) ha.2) (fun m20 h20 => ?_), fun z => absurd (show n ≤ 12 from hn) z⟩⟩
  have f20 : Fr SQ μ m20 := h20.2.up (fun o k w => S47_SQ (by omega) k)
  have h' := h.fr f20
  exact Sp.l (cW_number h'.2.1 h'.2.2.2.1 h'.2.2.2.2.1 h20.1 (h.pok ha.2) Pwt_PW hf ht hn) (fun r m hm => ⟨_, rfl, hm.1, Fr.tr f20 hm.2⟩)
theorem op_many (h : RC μ tn tb S) (x y z u : Int32) : OpL E MX10_many MX11_many [.int x, .int y, .int z, .int u] μ (fun ν => Fr SQ μ ν) := by
  have in2 : ∀ ν : Mem, Rt E MX11_in [.long (Int32.toInt64 u), .long 0, .long 12] ν (some (.int (b2 (Rg u 0 12)))) ν := fun ν => by
    have := cM_in (E := E) (μ := ν) (Int32.toInt64 u) 0 12
    simp only [Int32.toInt_toInt64] at this
    exact this
  have bad : ¬ (Rg x 0 7 ∧ Rg y 1 3 ∧ Rg z 0 7 ∧ Rg u 0 12) → Sp E MX11_many [.ref 123, .int x, .int y, .int z, .int u] μ (fun v' ξ => v' = some (.long ((-9223372036854775808) - Int32.toInt64 (-2))) ∧ Fr SQ μ ξ) := by
    intro hn
    refine Sp.go rfl rfl rfl (gX11_many_0 (Rt.i (cM_isTown x) ⟨fun _ => Rt.l (cM_no _) ⟨rfl, Fr.rf⟩, fun z1 => Rt.i (cM_isWay y) ⟨fun _ => Rt.l (cM_no _) ⟨rfl, Fr.rf⟩, fun z2 => Rt.i (cM_isTown z) ⟨fun _ => Rt.l (cM_no _) ⟨rfl, Fr.rf⟩, fun z3 => Rt.i (in2 _) ⟨fun _ => Rt.l (cM_no _) ⟨rfl, Fr.rf⟩, fun z4 => ?_⟩⟩⟩⟩))
    rw [b2_0, Decidable.not_not] at z1 z2 z3 z4
    exact absurd ⟨z1, z2, z3, z4⟩ hn
  by_cases c : Rg x 0 7 ∧ Rg y 1 3 ∧ Rg z 0 7 ∧ Rg u 0 12
  · obtain ⟨c1, c2, c3, c4⟩ := id c
    obtain ⟨f, hf, rfl⟩ := Rg.nat (x := x) (b := 7) c1
    obtain ⟨a, ha, rfl⟩ := Rg.nat (x := y) (b := 3) ⟨by have := c2.1; omega, c2.2⟩
    obtain ⟨t, ht, rfl⟩ := Rg.nat (x := z) (b := 7) c3
    obtain ⟨n, hn, rfl⟩ := Rg.nat (x := u) (b := 12) c4
    have ha' : 1 ≤ a ∧ a < 4 := by rw [Rg.nI (by omega)] at c2; omega
    refine Sp.l (cX_many h ha' (by omega) (by omega) hn) (fun r m hm => ?_)
    refine Sp.go rfl rfl rfl (gX11_many_0 (Rt.i (cM_isTown _) ⟨fun w => absurd c1 (by rw [b2_0] at w; exact w), fun _ => Rt.i (cM_isWay _) ⟨fun w => absurd c2 (by rw [b2_0] at w; exact w), fun _ => Rt.i (cM_isTown _) ⟨fun w => absurd c3 (by rw [b2_0] at w; exact w), fun _ => Rt.i (in2 _) ⟨fun w => absurd c4 (by rw [b2_0] at w; exact w), fun _ => ?_⟩⟩⟩⟩))
    exact Sp.l (cM_manyOf (h.fr hm.2) ha'.2 (by omega) (by omega) hn) (fun r2 m2 hm2 => ⟨by rw [hm2.1, hm.1], Fr.tr hm.2 hm2.2⟩)
  · have B := bad c
    refine Sp.go rfl rfl rfl (gX10_many_0 (Rt.i (cX_isTown _) ⟨fun _ => Rt.l (cX_longRefusal _) ⟨_, rfl, B⟩, fun z1 => Rt.i (cX_isWay _) ⟨fun _ => Rt.l (cX_longRefusal _) ⟨_, rfl, B⟩, fun z2 => Rt.i (cX_isTown _) ⟨fun _ => Rt.l (cX_longRefusal _) ⟨_, rfl, B⟩, fun z3 => ⟨fun _ => Rt.l (cX_longRefusal _) ⟨_, rfl, B⟩, fun z4 => ⟨fun z5 => ?_, fun _ => Rt.l (cX_longRefusal _) ⟨_, rfl, B⟩⟩⟩⟩⟩⟩))
    rw [b2_0, Decidable.not_not] at z1 z2 z3
    refine absurd ⟨z1, z2, z3, ?_⟩ c
    rw [i_lt] at z4
    rw [i_le] at z5
    have a : (0 : Int32).toInt = 0 ∧ (12 : Int32).toInt = 12 := by decide
    unfold Rg
    omega
end MANY2
