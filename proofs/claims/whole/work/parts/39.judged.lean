section JUDGED
variable {E : EV} {μ ν : Mem} {tn : Nat → Nat} {tb : Nat → Nat → Nat} {S : Nat} {L : LD} {s : JS}
theorem jd_ok {b : Nat → Nat} (hg : L.1 ≤ 9) (hE : ∀ l, l < 2 * L.1 → lE L l < 8) (n : Nat) (hl : ∀ k, k < n → ltr L.1 b k < 2 * L.1) : ∀ d k s, k + d = n → Jok L.1 k s → Jok L.1 n (jd L S b d k s).2 ∧ ∀ j, (jd L S b d k s).1 = some j → j < n
  | 0, k, s, hk, h => by
    have e : k = n := by omega
    subst e
    exact ⟨h, fun j hj => by cases hj⟩
  | d + 1, k, s, hk, h => by
    unfold jd
    split
    · exact jd_ok hg hE n hl d (k + 1) _ (by omega) (jst_ok h (hl k (by omega)) (hE _ (hl k (by omega))))
    · refine ⟨?_, fun j hj => ?_⟩
      · show Jok L.1 n s
        obtain ⟨h1, h2, h3, h4, h5⟩ := h
        exact ⟨h1, ⟨by have := h2.1; omega, h2.2⟩, h3, by omega, by omega⟩
      · cases hj
        omega
theorem cJ_follow {t : Nat} (ht : t < 4) (h : RC μ tn tb S) (hJ : JC μ s) (hk : Jok (LN tn tb).1 0 s) (hw : wf (LN tn tb).1 (tn t) (tb t) = none) (h0 : ¬ t = 0) (h2 : μ.1 8 2 = -1) : Sp E MX2_follow [.ref 8, .ref (115 + 2 * t)] μ (fun v m => v = none ∧ (JC m (jd (LN tn tb) S (tb t) (tn t) 0 s).2 ∧ m.1 8 2 = oI (jd (LN tn tb) S (tb t) (tn t) 0 s).1 ∧ Fr (fun a _ => 8 ≤ a ∧ a ≤ 10) μ m)) := by
  have hkd := sTx0 t ht
  obtain ⟨h1, hb, -⟩ := h.1 t ht
  have hcap : cap t = 30 := by unfold cap; rw [if_neg h0]
  refine Sp.go rfl rfl rfl (gX2_follow_0 hkd ?_)
  generalize hR : jd (LN tn tb) S (tb t) (tn t) 0 s = R
  have key : ∀ d k s m, k + d = tn t → JC m s → Jok (LN tn tb).1 k s → m.1 8 2 = -1 → Fr (fun a _ => 8 ≤ a ∧ a ≤ 10) μ m → jd (LN tn tb) S (tb t) d k s = R → Ex E MX2_follow (fun v m => v = none ∧ (JC m R.2 ∧ m.1 8 2 = oI R.1 ∧ Fr (fun a _ => 8 ≤ a ∧ a ≤ 10) μ m)) 2 [(0, .ref 8), (1, .ref (115 + 2 * t)), (2, .int (nI k))] [] m := by
    intro d
    induction d with
    | zero =>
      intro k s m hk0 hJ hK hm2 hf hR
      have rm := h.fr (hf.up (fun a k q => by unfold SQ; omega))
      obtain ⟨g1, g2, g3, g4, g5⟩ := rm.1 t ht
      refine gX2_follow_2 hkd (Rt.i (cT_size hkd) ?_)
      rw [g3.1]
      simp (disch := omega) only [n_le]
      refine ⟨fun _ => ⟨(by first | rfl | trivial), ?_⟩, fun z => by omega⟩
      rw [← hR]
      exact ⟨hJ, hm2, hf⟩
    | succ d ih =>
      intro k s m hk0 hJ hK hm2 hf hR
      have rm := h.fr (hf.up (fun a k q => by unfold SQ; omega))
      obtain ⟨g1, g2, g3, g4, g5⟩ := rm.1 t ht
      refine gX2_follow_2 hkd (Rt.i (cT_size hkd) ?_)
      rw [g3.1]
      simp (disch := omega) only [n_le]
      refine ⟨fun z => by omega, fun _ => Rt.i (cT_atT ht g3 (by omega) (by omega)) (Rt.i (cL_letterOf rm.2.1 _) ?_)⟩
      obtain ⟨l1, l2⟩ := ltr_some hw (show k < tn t by omega)
      have e : tA (tn t) (tb t) k = (tb t k : Int) := by unfold tA; rw [if_pos (by omega)]
      rw [tI_toInt hb, e, l1]
      refine Rt.i (cJ_mayPass rm hJ hK (by omega) l2) ?_
      rw [b2_0]
      have hR' : (if May (LN tn tb) S s (ltr (LN tn tb).1 (tb t) k) then jd (LN tn tb) S (tb t) d (k + 1) (jst (LN tn tb) s (ltr (LN tn tb).1 (tb t) k)) else (some k, s)) = R := hR
      refine ⟨fun z => ?_, fun z => ⟨(by first | rfl | trivial), ?_⟩⟩
      · rw [Decidable.not_not] at z
        rw [if_pos z] at hR'
        refine Sp.v (cJ_pass rm hJ hK (by omega) l2) (fun m11 hm v12 e12 => ?_)
        rw [e12, nI_1]
        exact ih (k + 1) _ m11 (by omega) hm.1 (jst_ok hK l2 (lE_lt rm.2.1 l2)) (by rw [hm.2.1]; exact hm2) (Fr.tr hf hm.2.2) hR'
      · rw [if_neg z] at hR'
        rw [← hR']
        obtain ⟨j1, j2, j3, j4⟩ := hJ
        exact ⟨⟨by rw [rd2 (by omega)]; exact j1, by rw [rd2 (by omega)]; exact j2, by rw [rd2 (by omega)]; exact j3, j4.fr (Fr.I (S := fun a _ => a = 8) rfl) (by omega) (fun _ => by omega)⟩, rde, Fr.tr hf (Fr.I (by omega))⟩
  exact key (tn t) 0 s μ (by omega) hJ hk h2 Fr.rf hR
theorem cX_judgeWay {t tw bg : Nat} (h : RC μ tn tb S) (ht : 1 ≤ t ∧ t < 4) (htw : tw < 8) (hbg : bg < 4) : Sp E MX10_judgeWay [.ref 0, .int (nI t), .int (nI tw), .int (nI bg)] μ (fun v m => v = none ∧ (JC m (jR (LN tn tb) S tn tb t tw bg).2 ∧ m.1 8 2 = oI (jR (LN tn tb) S tn tb t tw bg).1 ∧ Fr (fun a _ => 8 ≤ a ∧ a ≤ 10) μ m)) := by
  have hok := h.pok hbg
  have hq := hok.1
  obtain ⟨hn1, -⟩ := h.1 t ht.2
  have hcl := cap_le t
  refine Sp.go rfl rfl rfl (gX10_judgeWay_0 (Sp.go rfl rfl rfl (gX2_onPaper_0 ⟨rfl, ?_⟩)))
  refine Sp.v (cX_stampWay h (Or.inr (Or.inr rfl)) hbg) (fun m2 hm => ?_)
  have f2 : Fr (fun a _ => 8 ≤ a ∧ a ≤ 10) μ m2 := hm.2.up (fun a k q => by omega)
  refine Sp.go rfl rfl rfl (gX2_begin_0 (Rt.i (cP_size (by decide)) ⟨rfl, ?_⟩))
  rw [rd1 (by omega), rd1 (by omega), hm.1.1]
  generalize hν : mI (mI (mI (mI m2 8 2 (-1)) 8 3 (nI tw)) 8 4 (nI (PW (LN tn tb) tn tb bg).1)) 8 5 0 = ν
  have fν : Fr (fun a _ => 8 ≤ a ∧ a ≤ 10) μ ν := by
    rw [← hν]
    exact Fr.tr (Fr.tr (Fr.tr (Fr.tr f2 (Fr.I (by omega))) (Fr.I (by omega))) (Fr.I (by omega))) (Fr.I (by omega))
  have rν : RC ν tn tb S := h.fr (fν.up (fun a k q => by unfold SQ; omega))
  have jν : JC ν (tw, (PW (LN tn tb) tn tb bg).1, 0, PW (LN tn tb) tn tb bg) := by
    rw [← hν]
    refine ⟨by rw [rd2 (by omega), rd2 (by omega), rde], by rw [rd2 (by omega), rde], rde, ?_⟩
    have g8 : ∀ (m : Mem) (k : Nat) (x : Int32), Fr (fun a _ => a = 8) m (mI m 8 k x) := fun m k x => Fr.I rfl
    exact hm.1.fr (Fr.tr (Fr.tr (Fr.tr (g8 _ _ _) (g8 _ _ _)) (g8 _ _ _)) (g8 _ _ _)) (by omega) (fun _ => by omega)
  have n2 : ν.1 8 2 = -1 := by rw [← hν, rd2 (by omega), rd2 (by omega), rd2 (by omega), rde]
  simp (disch := omega) only [n_in, nI_clamp]
  refine ⟨by omega, Rt.i (cX_wayFault ht.2 rν) ?_⟩
  rw [oI_m1 _ (fun k hk => by have := wf_lt hk; omega)]
  unfold jR nW
  refine ⟨fun z => ⟨(by first | rfl | trivial), ?_⟩, fun z => ?_⟩
  · rw [if_pos (Or.inr z)]
    exact ⟨jν, n2, fν⟩
  · rw [if_neg (fun q => q.elim (fun q => by omega) (fun q => q z))]
    refine Sp.v (cJ_follow ht.2 rν jν ⟨htw, hok, Nat.le_refl _, by dsimp only; omega, Nat.le_refl _⟩ z (by omega) n2) (fun m8 hm8 => ⟨(by first | rfl | trivial), hm8.1, hm8.2.1, Fr.tr fν hm8.2.2⟩)
theorem cJ_verdict {R : Option Nat × JS} {w : Nat} (hw : w ≤ 4) (hJ : JC μ R.2) (h2 : μ.1 8 2 = oI R.1) : Rt E MX2_verdict [.ref 8, .int (nI w)] μ (some (.int (jV R w))) μ := by
  refine Sp.go rfl rfl rfl (gX2_verdict_0 ?_)
  obtain ⟨j1, j2, j3, j4⟩ := hJ
  simp (disch := omega) only [n_eqc, n_eq0]
  unfold jV
  refine ⟨fun z => ⟨by rw [if_pos z, h2], (by first | rfl | trivial)⟩, fun z => ⟨by rw [if_neg (by omega), if_pos z, j1], (by first | rfl | trivial)⟩, fun z => ⟨by rw [if_neg (by omega), if_neg (by omega), if_pos z, j2], (by first | rfl | trivial)⟩, fun z => Rt.i (cP_size (by decide)) ⟨by rw [if_neg (by omega), if_neg (by omega), if_neg (by omega), if_pos z, j4.1], (by first | rfl | trivial)⟩, fun z0 z1 z2 z3 => ⟨by rw [if_neg z0, if_neg z1, if_neg z2, if_neg z3, j3], (by first | rfl | trivial)⟩⟩
theorem cX_judged {t tw bg w : Nat} (h : RC μ tn tb S) (ht : 1 ≤ t ∧ t < 4) (htw : tw < 8) (hbg : bg < 4) (hw : w ≤ 4) : Sp E MX10_judged [.ref 0, .int (nI t), .int (nI tw), .int (nI bg), .int (nI w)] μ (fun v m => ∃ r, v = some (.int r) ∧ (r = jV (jR (LN tn tb) S tn tb t tw bg) w ∧ Fr (fun a _ => 8 ≤ a ∧ a ≤ 10) μ m)) := by
  have a1 : ¬ b2 (Rg (nI t) 1 3) = 0 := by rw [b2_0, Rg.nI (by omega)]; omega
  have a2 : ¬ b2 (Rg (nI tw) 0 7) = 0 := by rw [b2_0, Rg.nI (by omega)]; omega
  have a3 : ¬ b2 (Rg (nI bg) 0 3) = 0 := by rw [b2_0, Rg.nI (by omega)]; omega
  refine Sp.go rfl rfl rfl (gX10_judged_0 (Rt.i (cX_isWay _) ⟨fun z => absurd z a1, fun _ => Rt.i (cX_isTown _) ⟨fun z => absurd z a2, fun _ => Rt.i (cX_isWayOrClean _) ⟨fun z => absurd z a3, fun _ => ?_⟩⟩⟩))
  simp (disch := omega) only [n_lt0, n_lec]
  refine ⟨fun z => z.elim, fun _ => ⟨fun _ => Sp.v (cX_judgeWay h ht htw hbg) (fun m hm => Rt.i (cJ_verdict hw hm.1 hm.2.1) ⟨_, rfl, rfl, hm.2.2⟩), fun z => absurd hw z⟩⟩
end JUDGED
section JUDGEDM
variable {E : EV} {μ ν : Mem} {tn : Nat → Nat} {tb : Nat → Nat → Nat} {S : Nat} {L : LD} {s : JS}
theorem cM_judgedOf {t tw bg w : Nat} (h : RC μ tn tb S) (ht : 1 ≤ t ∧ t < 4) (htw : tw < 8) (hbg : bg < 4) (hw : w ≤ 4) : Sp E MX11_judgedOf [.ref 123, .int (nI t), .int (nI tw), .int (nI bg), .int (nI w)] μ (fun v m => ∃ r, v = some (.int r) ∧ (r = jV (jR (LN tn tb) S tn tb t tw bg) w ∧ Fr SQ μ m)) := by
  have hok := h.pok hbg
  have hq := hok.1
  have hg := h.2.1.1
  have hnW := nW_le (L := LN tn tb) h ht.2
  refine Sp.go rfl rfl rfl (gX11_judgedOf_0 (Sp.v (cM_findPaper (w := 0) (by decide) hbg h) (fun m1 hm v2 e2 => ?_)))
  rw [rd1 (by omega), hm.1.1] at e2
  subst e2
  have f1 : Fr (SP 0) μ (mI m1 123 16 0) := Fr.tr hm.2.2 (Fr.I (by unfold SP Sst; omega))
  refine Sp.i (cM_lengthOf ht.2 (by omega) (h.frPw f1)) (fun r m3 hm3 => ?_)
  rw [hm3.1]
  have f3 : Fr (SP 0) μ m3 := Fr.tr f1 (hm3.2.2.up (fun _ _ => SM_SP))
  have P3 : PMd m3 0 (PW (LN tn tb) tn tb bg) := by
    have : PMd (mI m1 123 16 0) 0 (PW (LN tn tb) tn tb bg) := hm.1.fr (by omega) (Fr.I (S := fun a _ => a = 123) rfl) (by omega) (fun _ _ _ => by omega)
    exact this.fr (by omega) hm3.2.2 (by unfold SM; omega) (fun k _ _ => by unfold SM; omega)
  have k3 : m3.1 123 16 = nI 0 := by rw [(hm3.2.2 123 16 (by unfold SM; omega)).1, rde]; rfl
  generalize hR : jR (LN tn tb) S tn tb t tw bg = R
  -- the end
  have fin : ∀ (m : Mem) (x5 x6 x7 : Int32), x5 = nI R.2.1 → x6 = nI R.2.2.1 → x7 = oI R.1 → PMd m 0 R.2.2.2.2 → m.1 123 16 = nI R.2.2.2.1 → Fr SQ μ m →
      ((¬ nI w = 0 → ((¬ nI w = 1 → ((¬ nI w = 2 → ((¬ nI w = 3 → ∃ r, some (Value.int (m.1 123 16)) = some (.int r) ∧ (r = jV R w ∧ Fr SQ μ m)) ∧ (nI w = 3 → ∃ r, some (Value.int (m.1 134 0)) = some (.int r) ∧ (r = jV R w ∧ Fr SQ μ m)))) ∧ (nI w = 2 → ∃ r, some (Value.int x6) = some (.int r) ∧ (r = jV R w ∧ Fr SQ μ m)))) ∧ (nI w = 1 → ∃ r, some (Value.int x5) = some (.int r) ∧ (r = jV R w ∧ Fr SQ μ m)))) ∧ (nI w = 0 → ∃ r, some (Value.int x7) = some (.int r) ∧ (r = jV R w ∧ Fr SQ μ m))) := by
    intro m x5 x6 x7 a1 a2 a3 a4 a5 a6
    simp (disch := omega) only [n_eqc, n_eq0]
    unfold jV
    refine ⟨fun z0 => ⟨fun z1 => ⟨fun z2 => ⟨fun z3 => ⟨_, rfl, ?_, a6⟩, fun z3 => ⟨_, rfl, ?_, a6⟩⟩, fun z2 => ⟨_, rfl, ?_, a6⟩⟩, fun z1 => ⟨_, rfl, ?_, a6⟩⟩, fun z0 => ⟨_, rfl, ?_, a6⟩⟩
    · rw [if_neg z0, if_neg z1, if_neg z2, if_neg z3, a5]
    · rw [if_neg z0, if_neg z1, if_neg z2, if_pos z3, a4.1]
    · rw [if_neg z0, if_neg z1, if_pos z2, a2]
    · rw [if_neg z0, if_pos z1, a1]
    · rw [if_pos z0, a3]
  have key : ∀ d k s m, k + d = nW (LN tn tb) tn tb t → Jok (LN tn tb).1 k s → PMd m 0 s.2.2.2 → m.1 123 16 = nI s.2.2.1 → ML m (LN tn tb) → Fr (SP 0) μ m → jd (LN tn tb) S (tb t) d k s = R → Ex E MX11_judgedOf (fun v m => ∃ r, v = some (.int r) ∧ (r = jV R w ∧ Fr SQ μ m)) 35 [(0, .ref 123), (1, .int (nI t)), (2, .int (nI tw)), (3, .int (nI bg)), (4, .int (nI w)), (5, .int (nI s.1)), (6, .int (nI s.2.1)), (7, .int (-1)), (8, .int (nI (nW (LN tn tb) tn tb t))), (9, .int (nI k))] [] m := by
    intro d
    induction d with
    | zero =>
      intro k s m hk hJ hP h16 hML hf hR
      refine gX11_judgedOf_35 ?_
      rw [n_le (by omega) (by omega)]
      refine ⟨fun _ => ?_, fun z => by omega⟩
      have hR' : (none, s) = R := hR
      subst hR'
      exact fin m _ _ _ rfl rfl rfl hP h16 (hf.up (fun _ _ => SP_up))
    | succ d ih =>
      intro k s m hk hJ hP h16 hML hf hR
      obtain ⟨j1, j2, j3, j4, j5⟩ := id hJ
      have hp := j2.1
      have rm := h.frPw hf
      obtain ⟨l2, -⟩ := nW_ltr (L := LN tn tb) (tn := tn) (tb := tb) (t := t) (k := k) (by omega)
      have hbl := bk_lt l2
      refine gX11_judgedOf_35 ?_
      rw [n_le (by omega) (by omega)]
      refine ⟨fun z => by omega, fun _ => ⟨fun z => absurd rfl z, fun _ => Rt.i (cM_letterAt ht.2 rm hML (by omega)) ?_⟩⟩
      generalize hll : ltr (LN tn tb).1 (tb t) k = l at l2 hbl
      have hR' : (if May (LN tn tb) S s l then jd (LN tn tb) S (tb t) d (k + 1) (jst (LN tn tb) s l) else (some k, s)) = R := by rw [← hll]; exact hR
      obtain ⟨q1, q2, q3, q4, q5⟩ := hML.2.2.2.2.2 (l / 2) (by omega)
      -- not allowed: the place is told
      have stop : ∀ m : Mem, ¬ May (LN tn tb) S s l → PMd m 0 s.2.2.2 → m.1 123 16 = nI s.2.2.1 → Fr (SP 0) μ m → ∀ v : Int32, v = nI k + 1 → Ex E MX11_judgedOf (fun v m => ∃ r, v = some (.int r) ∧ (r = jV R w ∧ Fr SQ μ m)) 35 [(0, .ref 123), (1, .int (nI t)), (2, .int (nI tw)), (3, .int (nI bg)), (4, .int (nI w)), (5, .int (nI s.1)), (6, .int (nI s.2.1)), (7, .int (nI k)), (8, .int (nI (nW (LN tn tb) tn tb t))), (9, .int v)] [] m := by
        intro m hno hP h16 hf v hv
        rw [if_neg hno] at hR'
        subst hR'
        have e := fin m _ _ _ rfl rfl (rfl : nI k = oI (some k)) hP h16 (hf.up (fun _ _ => SP_up))
        refine gX11_judgedOf_35 ⟨fun _ => e, fun _ => ⟨fun _ => e, fun z => absurd z (by simp (disch := omega) [n_eqm])⟩⟩
      -- behind 'fits'
      have at129 : ∀ (x11 : Int32) (ft : Bool), (ft = true ↔ (¬ lW (LN tn tb) l = true ∨ (0 < s.2.2.2.1 ∧ s.2.2.2.2 (s.2.2.2.1 - 1) = bk l) ∨ s.2.2.2.1 < (LN tn tb).2.2.2.2)) → ∀ m, PMd m 0 s.2.2.2 → m.1 123 16 = nI s.2.2.1 → ML m (LN tn tb) → Fr (SP 0) μ m → Ex E MX11_judgedOf (fun v m => ∃ r, v = some (.int r) ∧ (r = jV R w ∧ Fr SQ μ m)) 129 [(0, .ref 123), (1, .int (nI t)), (2, .int (nI tw)), (3, .int (nI bg)), (4, .int (nI w)), (5, .int (nI s.1)), (6, .int (nI s.2.1)), (7, .int (-1)), (8, .int (nI (nW (LN tn tb) tn tb t))), (9, .int (nI k)), (10, .int (nI l)), (11, .int x11)] [.int (if ft = true then 1 else 0)] m := by
        intro x11 ft hft m hP h16 hML hf
        have rm := h.frPw hf
        have hS := lS_lt rm.2.1 l2
        refine gX11_judgedOf_129 (Rt.i (cM_start hML l2) ?_)
        simp (disch := omega) only [n_eq, n_divc]
        refine ⟨fun z v4 e4 => stop m (fun q => z q.1) hP h16 hf v4 e4, fun z => Rt.i (cM_isShut rm.2.2.2.1 rm.2.2.2.2.2 (by omega)) ?_⟩
        rw [b2_0]
        refine ⟨fun z2 v8 e8 => stop m (fun q => ?_) hP h16 hf v8 e8, fun z2 => ⟨fun z3 => ?_, fun z3 v17 e17 => stop m (fun q => ?_) hP h16 hf v17 e17⟩⟩
        · have := q.2.1
          unfold lO at this
          rw [Decidable.not_not] at z2
          rw [z2] at this
          cases this
        · have hft1 : ft = true := by
            cases ft
            · exact absurd rfl z3
            · rfl
          have hmay : May (LN tn tb) S s l := ⟨z, by unfold lO; simpa using z2, hft.mp hft1⟩
          rw [if_pos hmay] at hR'
          refine Sp.v (cM_stamp (by decide) hML hP j2 (by omega) l2) (fun m10 hm10 => ?_)
          have hML10 := hML.frst hm10.2.1
          have f10 : Fr (SP 0) μ m10 := Fr.tr hf (hm10.2.1.up (fun _ _ => Sst_up))
          refine Rt.i (cM_end hML10 l2) ?_
          have hJ2 := jst_ok hJ l2 (lE_lt rm.2.1 l2)
          have hp2 := (stA_ok (L := LN tn tb) j2 l2).1
          rw [hm10.1.1]
          have s16 : m10.1 123 16 = nI (jst (LN tn tb) s l).2.2.1 := by
            rw [hm10.2.2, h16]
            unfold jst
            dsimp only
            split <;> first | exact nI_1 _ | rfl
          simp (disch := omega) only [n_le]
          refine ⟨fun z4 v14 e14 => ?_, fun z4 v15 e15 v16 e16 => ?_⟩
          · have := ih (k + 1) (jst (LN tn tb) s l) m10 (by omega) hJ2 hm10.1 s16 hML10 f10 hR'
            have e6 : (jst (LN tn tb) s l).2.1 = s.2.1 := Nat.max_eq_left z4
            rw [e6] at this
            rw [e14, nI_1]
            exact this
          · have := ih (k + 1) (jst (LN tn tb) s l) m10 (by omega) hJ2 hm10.1 s16 hML10 f10 hR'
            have e6 : (jst (LN tn tb) s l).2.1 = (stA (LN tn tb) s.2.2.2 l).1 := Nat.max_eq_right (by omega)
            rw [e6] at this
            rw [e15, e16, nI_1]
            exact this
        · cases ft
          · exact absurd (hft.mpr q.2.2) (by decide)
          · exact absurd z3 (by decide)
      -- behind 'strikes'
      have at92 : ∀ (sk : Bool), (sk = true ↔ (0 < s.2.2.2.1 ∧ s.2.2.2.2 (s.2.2.2.1 - 1) = bk l)) → Ex E MX11_judgedOf (fun v m => ∃ r, v = some (.int r) ∧ (r = jV R w ∧ Fr SQ μ m)) 92 [(0, .ref 123), (1, .int (nI t)), (2, .int (nI tw)), (3, .int (nI bg)), (4, .int (nI w)), (5, .int (nI s.1)), (6, .int (nI s.2.1)), (7, .int (-1)), (8, .int (nI (nW (LN tn tb) tn tb t))), (9, .int (nI k)), (10, .int (nI l))] [.int (if sk = true then 1 else 0)] m := by
        intro sk hsk
        have hW : (L : LD) → L = LN tn tb → ((if L.2.2.2.1 (l / 2) then (1 : Int32) else 0) = 0 ↔ ¬ lW L l = true) := by
          intro L hL
          unfold lW
          cases L.2.2.2.1 (l / 2) <;> simp
        have hW := hW _ rfl
        refine gX11_judgedOf_92 ?_
        simp (disch := omega) only [n_divc, n_in, nI_clamp]
        rw [q5, hP.1, hML.2.2.2.2.1, hW]
        have hrm := hML.2.2.1
        refine ⟨by omega, fun z => at129 _ true ⟨fun _ => Or.inl z, fun _ => rfl⟩ m hP h16 hML hf, fun z => ⟨fun z2 => ?_, fun z2 => ?_⟩⟩
        · have : sk = true := by
            cases sk
            · exact absurd rfl z2
            · rfl
          exact at129 _ true ⟨fun _ => Or.inr (Or.inl (hsk.mp this)), fun _ => rfl⟩ m hP h16 hML hf
        · have hsk0 : ¬ (0 < s.2.2.2.1 ∧ s.2.2.2.2 (s.2.2.2.1 - 1) = bk l) := by
            intro q
            have := hsk.mpr q
            rw [this] at z2
            exact absurd z2 (by decide)
          simp (disch := omega) only [n_le]
          refine ⟨fun z3 => at129 _ false ⟨fun q => (by cases q), fun q => q.elim (fun q => absurd q z) (fun q => q.elim (fun q => absurd q hsk0) (fun q => by omega))⟩ m hP h16 hML hf, fun z3 => at129 _ true ⟨fun _ => Or.inr (Or.inr (by omega)), fun _ => rfl⟩ m hP h16 hML hf⟩
      rw [hP.1]
      simp (disch := omega) only [n_le0]
      refine ⟨fun z => at92 false ⟨fun q => (by cases q), fun q => by omega⟩, fun z => ?_⟩
      rw [show nI s.2.2.2.1 - 1 = nI (s.2.2.2.1 - 1) from pk_sub (b := 1) (by omega)]
      simp (disch := omega) only [n_in, nI_clamp]
      refine ⟨by omega, Rt.i (cM_back (by omega)) ?_⟩
      have e5 := hP.2 (s.2.2.2.1 - 1) (by omega)
      have e6 := j2.2 (s.2.2.2.1 - 1) (by omega)
      rw [show 60 * 0 + (s.2.2.2.1 - 1) = s.2.2.2.1 - 1 by omega] at e5
      rw [e5]
      simp (disch := omega) only [n_eq]
      exact ⟨fun z2 => at92 false ⟨fun q => (by cases q), fun q => absurd q.2 z2⟩, fun z2 => at92 true ⟨fun _ => ⟨by omega, z2⟩, fun _ => rfl⟩⟩
  exact key (nW (LN tn tb) tn tb t) 0 (tw, (PW (LN tn tb) tn tb bg).1, 0, PW (LN tn tb) tn tb bg) m3 (by omega) ⟨htw, hok, Nat.le_refl _, by dsimp only; omega, Nat.le_refl _⟩ P3 k3 hm3.2.1 f3 hR
theorem op_judged (h : RC μ tn tb S) (x y z u : Int32) : Op E MX10_judged MX11_judged [.int x, .int y, .int z, .int u] μ (fun ν => Fr SQ μ ν) := by
  have i4 : ∀ ν : Mem, Rt E MX11_in [.long (Int32.toInt64 u), .long 0, .long 4] ν (some (.int (b2 (Rg u 0 4)))) ν := fun ν => cM_inL (E := E) (μ := ν) u 0 4
  have zz : (0 : Int32).toInt = 0 ∧ (4 : Int32).toInt = 4 := by decide
  by_cases c1 : Rg x 1 3
  · by_cases c2 : Rg y 0 7
    · by_cases c3 : Rg z 0 3
      · by_cases c4 : Rg u 0 4
        · obtain ⟨t, ht, rfl⟩ := Rg.nat (x := x) (b := 3) ⟨by have := c1.1; omega, c1.2⟩
          obtain ⟨tw, htw, rfl⟩ := Rg.nat (x := y) (b := 7) c2
          obtain ⟨bg, hbg, rfl⟩ := Rg.nat (x := z) (b := 3) c3
          obtain ⟨w, hw, rfl⟩ := Rg.nat (x := u) (b := 4) c4
          have c1' := c1
          rw [Rg.nI (by omega)] at c1'
          refine Sp.i (cX_judged h (by omega) (by omega) (by omega) hw) (fun r m hm => ?_)
          have hf : Fr SQ μ m := hm.2.up (fun a k q => by unfold SQ; omega)
          refine Sp.go rfl rfl rfl (gX11_judged_0 (Rt.i (cM_isWay _) ⟨fun q => absurd c1 (by rw [b2_0] at q; exact q), fun _ => Rt.i (cM_isTown _) ⟨fun q => absurd c2 (by rw [b2_0] at q; exact q), fun _ => Rt.i (cM_isBegun _) ⟨fun q => absurd c3 (by rw [b2_0] at q; exact q), fun _ => Rt.i (i4 _) ⟨fun q => absurd c4 (by rw [b2_0] at q; exact q), fun _ => ?_⟩⟩⟩⟩))
          exact Sp.i (cM_judgedOf (h.fr hf) (by omega) (by omega) (by omega) hw) (fun r2 m2 hm2 => ⟨by rw [hm2.1, hm.1], Fr.tr hf hm2.2⟩)
        · refine Sp.go rfl rfl rfl (gX10_judged_0 (Rt.i (cX_isWay _) ⟨fun q => absurd c1 (by rw [b2_0] at q; exact q), fun _ => Rt.i (cX_isTown _) ⟨fun q => absurd c2 (by rw [b2_0] at q; exact q), fun _ => Rt.i (cX_isWayOrClean _) ⟨fun q => absurd c3 (by rw [b2_0] at q; exact q), fun _ => ?_⟩⟩⟩))
          have ref : Sp E MX11_judged [.ref 123, .int x, .int y, .int z, .int u] μ (fun v' ξ => v' = some (.int (-2)) ∧ Fr SQ μ ξ) := Sp.go rfl rfl rfl (gX11_judged_0 (Rt.i (cM_isWay _) ⟨fun q => absurd c1 (by rw [b2_0] at q; exact q), fun _ => Rt.i (cM_isTown _) ⟨fun q => absurd c2 (by rw [b2_0] at q; exact q), fun _ => Rt.i (cM_isBegun _) ⟨fun q => absurd c3 (by rw [b2_0] at q; exact q), fun _ => Rt.i (i4 _) ⟨fun _ => ⟨rfl, Fr.rf⟩, fun q => absurd (b2_f c4) q⟩⟩⟩⟩))
          refine ⟨fun _ => ⟨_, rfl, ref⟩, fun q => ⟨fun q2 => ?_, fun _ => ⟨_, rfl, ref⟩⟩⟩
          rw [i_lt, zz.1] at q
          rw [i_le, zz.2] at q2
          exact absurd ⟨by omega, q2⟩ c4
      · refine Sp.go rfl rfl rfl (gX10_judged_0 (Rt.i (cX_isWay _) ⟨fun q => absurd c1 (by rw [b2_0] at q; exact q), fun _ => Rt.i (cX_isTown _) ⟨fun q => absurd c2 (by rw [b2_0] at q; exact q), fun _ => Rt.i (cX_isWayOrClean _) ⟨fun _ => ⟨_, rfl, ?_⟩, fun q => absurd (b2_f c3) q⟩⟩⟩))
        exact Sp.go rfl rfl rfl (gX11_judged_0 (Rt.i (cM_isWay _) ⟨fun q => absurd c1 (by rw [b2_0] at q; exact q), fun _ => Rt.i (cM_isTown _) ⟨fun q => absurd c2 (by rw [b2_0] at q; exact q), fun _ => Rt.i (cM_isBegun _) ⟨fun _ => ⟨rfl, Fr.rf⟩, fun q => absurd (b2_f c3) q⟩⟩⟩))
    · refine Sp.go rfl rfl rfl (gX10_judged_0 (Rt.i (cX_isWay _) ⟨fun q => absurd c1 (by rw [b2_0] at q; exact q), fun _ => Rt.i (cX_isTown _) ⟨fun _ => ⟨_, rfl, ?_⟩, fun q => absurd (b2_f c2) q⟩⟩))
      exact Sp.go rfl rfl rfl (gX11_judged_0 (Rt.i (cM_isWay _) ⟨fun q => absurd c1 (by rw [b2_0] at q; exact q), fun _ => Rt.i (cM_isTown _) ⟨fun _ => ⟨rfl, Fr.rf⟩, fun q => absurd (b2_f c2) q⟩⟩))
  · refine Sp.go rfl rfl rfl (gX10_judged_0 (Rt.i (cX_isWay _) ⟨fun _ => ⟨_, rfl, ?_⟩, fun q => absurd (b2_f c1) q⟩))
    exact Sp.go rfl rfl rfl (gX11_judged_0 (Rt.i (cM_isWay _) ⟨fun _ => ⟨rfl, Fr.rf⟩, fun q => absurd (b2_f c1) q⟩))
end JUDGEDM
