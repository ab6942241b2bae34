def fF (F : Nat → Int64 → Int64) (h : Int64) : Nat → Int64
  | 0 => h
  | k + 1 => F k (fF F h k)
section DIGEST
variable {E : EV} {μ ν : Mem} {L : LD} {S : Nat} {tn : Nat → Nat} {tb : Nat → Nat → Nat} {s : LZ}
noncomputable def dGt (L : LD) (S : Nat) (g : Nat) (h : Int64) : Int64 := 31 * (31 * (fF (fun k h => 31 * h + Int32.toInt64 (gtV L S g k)) h 4) + Int32.toInt64 (nI (chV (adj L (pO S)) (adj L (pWo S g)) 0))) + Int32.toInt64 (nI (chV (adj L (pO S)) (adj L (pWo S g)) 1))
def dP1 (L : LD) (tn : Nat → Nat) (tb : Nat → Nat → Nat) (w : Nat) (h : Int64) : Int64 := fF (fun k h => 31 * h + Int32.toInt64 (nI (byO ((PW L tn tb w).2 k)))) (31 * h + Int32.toInt64 (nI (PW L tn tb w).1)) (PW L tn tb w).1
def dP2 (L : LD) (S : Nat) (tn : Nat → Nat) (tb : Nat → Nat → Nat) (w : Nat) (h : Int64) : Int64 := fF (fun k h => 31 * h + Int32.toInt64 (jV (jR L S tn tb w 0 0) k)) h 5
noncomputable def dP3 (L : LD) (S : Nat) (tn : Nat → Nat) (tb : Nat → Nat → Nat) (w : Nat) (h : Int64) : Int64 := 31 * (31 * (31 * (31 * (31 * h + Int32.toInt64 (nI (fdV L S (PW L tn tb w).1 (PW L tn tb w).2 0))) + Int32.toInt64 (nI (fdV L S (PW L tn tb w).1 (PW L tn tb w).2 1))) + shV L S (PW L tn tb 0) (PW L tn tb w) 0 (jR L S tn tb w 0 0).2.1 0) + shV L S (PW L tn tb 0) (PW L tn tb w) 0 (jR L S tn tb w 0 0).2.1 1) + mnV L S (PW L tn tb w) 0 (jR L S tn tb w 0 0).2.1 6
noncomputable def dWy (L : LD) (S : Nat) (tn : Nat → Nat) (tb : Nat → Nat → Nat) (w : Nat) (h : Int64) : Int64 := dP3 L S tn tb w (dP2 L S tn tb w (dP1 L tn tb w h))
noncomputable def dTn (L : LD) (S t : Nat) (h : Int64) : Int64 := 31 * (31 * (31 * (31 * h + Int32.toInt64 (nI (eRc L S t L.2.2.2.2))) + Int32.toInt64 (oI (dst (adj L (pO S)) 0 t))) + Int32.toInt64 (erV L S 0 (2 ^ t) 0)) + Int32.toInt64 (erV L S 0 (2 ^ t) 1)
def d1 (L : LD) (tn : Nat → Nat) (s : LZ) : Nat → Int64 := fF (fun k h => 31 * h + Int32.toInt64 (nI (cnV L tn s k))) 17
def d2 (tn : Nat → Nat) (tb : Nat → Nat → Nat) (h : Int64) : Nat → Int64 := fF (fun t h => 31 * h + Int32.toInt64 (ftV tn tb t)) h
def smV (L : LD) (tn : Nat → Nat) (tb : Nat → Nat → Nat) : Int32 := b2 (al (PW L tn tb 1) (PW L tn tb 2) = (PW L tn tb 1).1 ∧ al (PW L tn tb 1) (PW L tn tb 2) = (PW L tn tb 2).1)
noncomputable def d3 (L : LD) (S : Nat) (tn : Nat → Nat) (tb : Nat → Nat → Nat) (s : LZ) : Nat → Int64 := fF (dGt L S) (31 * d2 tn tb (d1 L tn s 8) 4 + Int32.toInt64 (nI L.2.2.2.2))
noncomputable def d4 (L : LD) (S : Nat) (tn : Nat → Nat) (tb : Nat → Nat → Nat) (s : LZ) : Nat → Int64 := fF (fun i h => dWy L S tn tb (i + 1) h) (d3 L S tn tb s L.1)
noncomputable def d5 (L : LD) (S : Nat) (tn : Nat → Nat) (tb : Nat → Nat → Nat) (s : LZ) : Nat → Int64 := fF (dTn L S) (31 * d4 L S tn tb s 3 + Int32.toInt64 (smV L tn tb))
noncomputable def dgV (L : LD) (S : Nat) (tn : Nat → Nat) (tb : Nat → Nat → Nat) (s : LZ) : Int64 := 31 * (31 * d5 L S tn tb s 8 + Int32.toInt64 (nI (ct (slw s 7) s.1))) + Int32.toInt64 (oI (fw (okU s) 2048))
theorem d2_0 {h : Int64} : d2 tn tb h 0 = h := rfl
theorem d3_0 : d3 L S tn tb s 0 = 31 * d2 tn tb (d1 L tn s 8) 4 + Int32.toInt64 (nI L.2.2.2.2) := rfl
theorem fF_0 {F : Nat → Int64 → Int64} {h : Int64} : fF F h 0 = h := rfl
theorem d4_0 : d4 L S tn tb s 0 = d3 L S tn tb s L.1 := by
  unfold d4
  rw [fF_0]
theorem d5_0 : d5 L S tn tb s 0 = 31 * d4 L S tn tb s 3 + Int32.toInt64 (smV L tn tb) := rfl
theorem d3_s {k : Nat} : d3 L S tn tb s (k + 1) = dGt L S k (d3 L S tn tb s k) := rfl
theorem d4_s {k : Nat} : d4 L S tn tb s (k + 1) = dWy L S tn tb (k + 1) (d4 L S tn tb s k) := rfl
theorem d5_s {k : Nat} : d5 L S tn tb s (k + 1) = dTn L S k (d5 L S tn tb s k) := rfl
theorem cX_digestGate {g : Nat} {h0 : Int64} (h : RC μ tn tb S) (hg : g < (LN tn tb).1) : Sp E MX10_digestGate [.ref 0, .long h0, .int (nI g)] μ (fun v ν => ∃ r : Int64, v = some (.long r) ∧ (r = dGt (LN tn tb) S g h0 ∧ Fr SQ μ ν)) := by
  have h9 := h.2.1.1
  refine Sp.go rfl rfl rfl (gX10_digestGate_0 ?_)
  have key : ∀ d k, k + d = 4 → Ex E MX10_digestGate (fun v ν => ∃ r : Int64, v = some (.long r) ∧ (r = dGt (LN tn tb) S g h0 ∧ Fr SQ μ ν)) 6 [(0, .ref 0), (1, .long h0), (3, .int (nI g)), (4, .long (fF (fun k h => 31 * h + Int32.toInt64 (gtV (LN tn tb) S g k)) h0 k)), (6, .int (nI k))] [] μ := by
    intro d
    induction d with
    | zero =>
      intro k hk
      have : k = 4 := by omega
      subst this
      refine gX10_digestGate_6 ⟨fun _ => Sp.i (cX_without (w := 0) h hg (by decide)) (fun r m hm v4 e4 => Sp.i (cX_without (w := 1) (h.fr hm.2) hg (by decide)) (fun r2 m2 hm2 => ⟨_, rfl, ?_, Fr.tr hm.2 hm2.2⟩)), fun z => absurd (by decide) z⟩
      rw [e4, hm.1, hm2.1]
      rfl
    | succ d ih =>
      intro k hk
      refine gX10_digestGate_6 ?_
      rw [n_clt (by omega) (by decide)]
      refine ⟨fun z => absurd (show 3 < k from z) (by omega), fun _ => Rt.i (cX_gate h hg (by omega)) (fun v9 e9 v10 e10 => ?_)⟩
      rw [e9, e10, n_addc]
      exact ih (k + 1) (by omega)
  exact key 4 0 rfl
theorem cX_digestWay {w : Nat} {h0 : Int64} (h : RC μ tn tb S) (hw : 1 ≤ w ∧ w < 4) : Sp E MX10_digestWay [.ref 0, .long h0, .int (nI w)] μ (fun v ν => ∃ r : Int64, v = some (.long r) ∧ (r = dWy (LN tn tb) S tn tb w h0 ∧ Fr SQ μ ν)) := by
  have hp := h.pok hw.2
  have p30 := hp.1
  have tw8 := jR_town (S := S) h hw
  refine Sp.go rfl rfl rfl (gX10_digestWay_0 (Sp.i (cX_paperN h hw) (fun r m1 hm v3 e3 => ?_)))
  rw [hm.1] at e3 ⊢
  have k55 : ∀ d k m, k + d = 5 → Fr SQ μ m → Ex E MX10_digestWay (fun v ν => ∃ r : Int64, v = some (.long r) ∧ (r = dWy (LN tn tb) S tn tb w h0 ∧ Fr SQ μ ν)) 55 [(0, .ref 0), (1, .long h0), (3, .int (nI w)), (4, .int (nI (PW (LN tn tb) tn tb w).1)), (5, .long (fF (fun k h => 31 * h + Int32.toInt64 (jV (jR (LN tn tb) S tn tb w 0 0) k)) (dP1 (LN tn tb) tn tb w h0) k)), (7, .int (nI k))] [] m := by
    intro d
    induction d with
    | zero =>
      intro k m hk hf
      have : k = 5 := by omega
      subst this
      refine gX10_digestWay_55 ⟨fun _ => Sp.i (cX_found (w := 0) (h.fr hf) hw (by decide)) (fun r2 m2 hm2 v4 e4 => ?_), fun z => absurd (by decide) z⟩
      have f2 := Fr.tr hf hm2.2
      refine Sp.i (cX_found (w := 1) (h.fr f2) hw (by decide)) (fun r5 m5 hm5 v7 e7 => ?_)
      have f5 := Fr.tr f2 hm5.2
      refine Sp.i (cX_judged (tw := 0) (bg := 0) (w := 1) (h.fr f5) hw (by decide) (by decide) (by decide)) (fun r9 m8 hm8 => ?_)
      have f8 := Fr.tr f5 (hm8.2.up (T := SQ) (fun a k q => by unfold SQ; omega))
      have e9 : r9 = nI (jR (LN tn tb) S tn tb w 0 0).2.1 := hm8.1
      rw [e9]
      refine Sp.l (cX_shortest (f := 0) (a := 0) (w := 0) (h.fr f8) (by decide) (by decide) tw8 hw.2 (by decide)) (fun r11 m10 hm10 v12 e12 => ?_)
      have f10 := Fr.tr f8 hm10.2
      refine Sp.l (cX_shortest (f := 0) (a := 0) (w := 1) (h.fr f10) (by decide) (by decide) tw8 hw.2 (by decide)) (fun r14 m13 hm13 v15 e15 => ?_)
      have f13 := Fr.tr f10 hm13.2
      refine Sp.l (cX_many (f := 0) (n := 6) (h.fr f13) hw (by decide) tw8 (by decide)) (fun r17 m16 hm16 => ⟨_, rfl, ?_, Fr.tr f13 hm16.2⟩)
      rw [e15, e12, e7, e4, hm16.1, hm13.1, hm10.1, hm5.1, hm2.1]
      rfl
    | succ d ih =>
      intro k m hk hf
      refine gX10_digestWay_55 ?_
      rw [n_clt (by omega) (by decide)]
      refine ⟨fun z => absurd (show 4 < k from z) (by omega), fun _ => Sp.i (cX_judged (tw := 0) (bg := 0) (w := k) (h.fr hf) hw (by decide) (by decide) (by omega)) (fun r m2 hm2 v20 e20 v21 e21 => ?_)⟩
      rw [e20, e21, n_addc, hm2.1]
      exact ih (k + 1) m2 (by omega) (Fr.tr hf (hm2.2.up (fun a k q => by unfold SQ; omega)))
  have k22 : ∀ d k m, k + d = (PW (LN tn tb) tn tb w).1 → Fr SQ μ m → Ex E MX10_digestWay (fun v ν => ∃ r : Int64, v = some (.long r) ∧ (r = dWy (LN tn tb) S tn tb w h0 ∧ Fr SQ μ ν)) 22 [(0, .ref 0), (1, .long h0), (3, .int (nI w)), (4, .int (nI (PW (LN tn tb) tn tb w).1)), (5, .long (fF (fun k h => 31 * h + Int32.toInt64 (nI (byO ((PW (LN tn tb) tn tb w).2 k)))) (31 * h0 + Int32.toInt64 (nI (PW (LN tn tb) tn tb w).1)) k)), (7, .int (nI k))] [] m := by
    intro d
    induction d with
    | zero =>
      intro k m hk hf
      refine gX10_digestWay_22 ?_
      rw [n_le (by omega) (by omega)]
      refine ⟨fun _ => ?_, fun z => by omega⟩
      rw [show k = (PW (LN tn tb) tn tb w).1 by omega]
      exact k55 5 0 m rfl hf
    | succ d ih =>
      intro k m hk hf
      refine gX10_digestWay_22 ?_
      rw [n_le (by omega) (by omega)]
      refine ⟨fun z => by omega, fun _ => Sp.i (cX_paperK (h.fr hf) hw (by omega)) (fun r m2 hm2 v4 e4 v5 e5 => ?_)⟩
      rw [e4, e5, n_addc, hm2.1]
      exact ih (k + 1) m2 (by omega) (Fr.tr hf hm2.2)
  rw [e3]
  exact k22 (PW (LN tn tb) tn tb w).1 0 m1 (by omega) hm.2
theorem p2t {t : Nat} (ht : t < 8) : 2 ^ t < 256 := Nat.lt_of_lt_of_le (Nat.pow_lt_pow_right (by decide) ht) (by decide)
theorem cX_digestTown {t : Nat} {h0 : Int64} (h : RC μ tn tb S) (ht : t < 8) : Sp E MX10_digestTown [.ref 0, .long h0, .int (nI t)] μ (fun v ν => ∃ r : Int64, v = some (.long r) ∧ (r = dTn (LN tn tb) S t h0 ∧ Fr SQ μ ν)) := by
  have p2 := p2t ht
  refine Sp.go rfl rfl rfl (gX10_digestTown_0 (Sp.i (cX_clean h ht) (fun r m1 hm v3 e3 => ?_)))
  refine Sp.i (cX_far (a := 0) (h.fr hm.2) (by decide) ht) (fun r2 m2 hm2 v6 e6 => ?_)
  have f2 := Fr.tr hm.2 hm2.2
  rw [b_1shl (by omega)]
  refine Sp.i (cX_errands (h := 0) (w := 0) (h.fr f2) (by decide) p2 (by decide)) (fun r3 m3 hm3 v9 e9 => ?_)
  have f3 := Fr.tr f2 hm3.2
  refine Sp.i (cX_errands (h := 0) (w := 1) (h.fr f3) (by decide) p2 (by decide)) (fun r4 m4 hm4 => ⟨_, rfl, ?_, Fr.tr f3 hm4.2⟩)
  rw [e9, e6, e3, hm4.1, hm3.1, hm2.1, hm.1]
  rfl
theorem cX_digest (h : RC μ tn tb S) (hL : RLi μ s) : Sp E MX10_digest [.ref 0] μ (fun v ν => ∃ r : Int64, v = some (.long r) ∧ (r = dgV (LN tn tb) S tn tb s ∧ Fr SQ μ ν)) := by
  have h9 := h.2.1.1
  refine Sp.go rfl rfl rfl (gX10_digest_0 ?_)
  have k131 : ∀ d k m, k + d = 8 → Fr SQ μ m → Ex E MX10_digest (fun v ν => ∃ r : Int64, v = some (.long r) ∧ (r = dgV (LN tn tb) S tn tb s ∧ Fr SQ μ ν)) 131 [(0, .ref 0), (1, .long (d5 (LN tn tb) S tn tb s k)), (3, .int (nI k))] [] m := by
    intro d
    induction d with
    | zero =>
      intro k m hk hf
      have : k = 8 := by omega
      subst this
      refine gX10_digest_131 ⟨fun _ => Rt.i (cX_slips7 (hL.fr hf)) (fun v4 e4 => Sp.i (cX_fewest (hL.fr hf)) (fun r m2 hm2 => ⟨_, rfl, ?_, Fr.tr hf hm2.2⟩)), fun z => absurd (by decide) z⟩
      rw [e4, hm2.1]
      rfl
    | succ d ih =>
      intro k m hk hf
      refine gX10_digest_131 ?_
      rw [n_cle (by omega) (by decide)]
      refine ⟨fun z => absurd (show 8 ≤ k from z) (by omega), fun _ => Sp.l (cX_digestTown (h.fr hf) (by omega)) (fun r m2 hm2 v9 e9 => ?_)⟩
      rw [e9, n_addc, hm2.1, ← d5_s]
      exact ih (k + 1) m2 (by omega) (Fr.tr hf hm2.2)
  have k97 : ∀ d k m, k + d = 3 → Fr SQ μ m → Ex E MX10_digest (fun v ν => ∃ r : Int64, v = some (.long r) ∧ (r = dgV (LN tn tb) S tn tb s ∧ Fr SQ μ ν)) 97 [(0, .ref 0), (1, .long (d4 (LN tn tb) S tn tb s k)), (3, .int (nI (k + 1)))] [] m := by
    intro d
    induction d with
    | zero =>
      intro k m hk hf
      have : k = 3 := by omega
      subst this
      refine gX10_digest_97 ⟨fun _ => Sp.i (cX_same (s := 1) (t := 2) (h.fr hf) (by decide) (by decide)) (fun r m2 hm2 v4 e4 => ?_), fun z => absurd (by decide) z⟩
      have k := k131 8 0 m2 rfl (Fr.tr hf hm2.2)
      rw [d5_0] at k
      rw [e4, hm2.1]
      exact k
    | succ d ih =>
      intro k m hk hf
      refine gX10_digest_97 ?_
      rw [n_cle (by omega) (by decide)]
      refine ⟨fun z => absurd (show 4 ≤ k + 1 from z) (by omega), fun _ => Sp.l (cX_digestWay (h.fr hf) (by omega)) (fun r m2 hm2 v9 e9 => ?_)⟩
      rw [e9, n_addc, hm2.1, ← d4_s]
      exact ih (k + 1) m2 (by omega) (Fr.tr hf hm2.2)
  have k71 : ∀ d k m, k + d = (LN tn tb).1 → Fr SQ μ m → Ex E MX10_digest (fun v ν => ∃ r : Int64, v = some (.long r) ∧ (r = dgV (LN tn tb) S tn tb s ∧ Fr SQ μ ν)) 71 [(0, .ref 0), (1, .long (d3 (LN tn tb) S tn tb s k)), (3, .int (nI k))] [] m := by
    intro d
    induction d with
    | zero =>
      intro k m hk hf
      refine gX10_digest_71 (Rt.i (cL_gatesTold (h.fr hf).2.1) ?_)
      rw [n_le (by omega) (by omega)]
      refine ⟨fun _ => ?_, fun z => by omega⟩
      have kk := k97 3 0 m rfl hf
      rw [d4_0] at kk
      rw [show k = (LN tn tb).1 by omega]
      exact kk
    | succ d ih =>
      intro k m hk hf
      refine gX10_digest_71 (Rt.i (cL_gatesTold (h.fr hf).2.1) ?_)
      rw [n_le (by omega) (by omega)]
      refine ⟨fun z => by omega, fun _ => Sp.l (cX_digestGate (h.fr hf) (by omega)) (fun r m2 hm2 v9 e9 => ?_)⟩
      rw [e9, n_addc, hm2.1, ← d3_s]
      exact ih (k + 1) m2 (by omega) (Fr.tr hf hm2.2)
  have k33 : ∀ d k, k + d = 4 → Ex E MX10_digest (fun v ν => ∃ r : Int64, v = some (.long r) ∧ (r = dgV (LN tn tb) S tn tb s ∧ Fr SQ μ ν)) 33 [(0, .ref 0), (1, .long (d2 tn tb (d1 (LN tn tb) tn s 8) k)), (3, .int (nI k))] [] μ := by
    intro d
    induction d with
    | zero =>
      intro k hk
      have : k = 4 := by omega
      subst this
      refine gX10_digest_33 ⟨fun _ => Sp.go rfl rfl rfl (gX10_room_0 (Rt.i (cL_roomTold h.2.1) ⟨_, rfl, fun v4 e4 => ?_⟩)), fun z => absurd (by decide) z⟩
      have kk := k71 (LN tn tb).1 0 μ (by omega) Fr.rf
      rw [d3_0] at kk
      rw [e4]
      exact kk
    | succ d ih =>
      intro k hk
      refine gX10_digest_33 ?_
      rw [n_cle (by omega) (by decide)]
      refine ⟨fun z => absurd (show 4 ≤ k from z) (by omega), fun _ => Rt.i (cX_fault h (by omega)) (fun v7 e7 v8 e8 => ?_)⟩
      rw [e7, e8, n_addc]
      exact ih (k + 1) (by omega)
  have k6 : ∀ d k, k + d = 8 → Ex E MX10_digest (fun v ν => ∃ r : Int64, v = some (.long r) ∧ (r = dgV (LN tn tb) S tn tb s ∧ Fr SQ μ ν)) 6 [(0, .ref 0), (1, .long (d1 (LN tn tb) tn s k)), (3, .int (nI k))] [] μ := by
    intro d
    induction d with
    | zero =>
      intro k hk
      have : k = 8 := by omega
      subst this
      have kk := k33 4 0 rfl
      rw [d2_0] at kk
      exact gX10_digest_6 ⟨fun _ => kk, fun z => absurd (by decide) z⟩
    | succ d ih =>
      intro k hk
      refine gX10_digest_6 ?_
      rw [n_clt (by omega) (by decide)]
      refine ⟨fun z => absurd (show 7 < k from z) (by omega), fun _ => Rt.i (cX_count h hL (by omega)) (fun v7 e7 v8 e8 => ?_)⟩
      rw [e7, e8, n_addc]
      exact ih (k + 1) (by omega)
  exact k6 8 0 rfl
theorem cM_digest (h : RC μ tn tb S) (hL : RLi μ s) : Sp E MX11_digest [.ref 123] μ (fun v ν => ∃ r : Int64, v = some (.long r) ∧ (r = dgV (LN tn tb) S tn tb s ∧ Fr SQ μ ν)) := by
  have h9 := h.2.1.1
  have hS := h.2.2.2.1
  refine Sp.go rfl rfl rfl (gX11_digest_0 ?_)
  have k396 : ∀ d k m, k + d = 8 → Fr SQ μ m → Ex E MX11_digest (fun v ν => ∃ r : Int64, v = some (.long r) ∧ (r = dgV (LN tn tb) S tn tb s ∧ Fr SQ μ ν)) 396 [(0, .ref 123), (1, .long (d5 (LN tn tb) S tn tb s k)), (3, .int (nI k))] [] m := by
    intro d
    induction d with
    | zero =>
      intro k m hk hf
      have : k = 8 := by omega
      subst this
      refine gX11_digest_396 ⟨fun _ => Sp.i (cM_slipsOf (P := 7) (by decide) hL.1 (hL.fr hf).2.2) (fun r m2 hm2 v4 e4 => ?_), fun z => absurd (by decide) z⟩
      have f2 := Fr.tr hf (hm2.2.up (T := SQ) (fun _ _ => S145_SQ))
      refine Sp.i (cM_fewestNow hL.1 (hL.fr f2).2.2) (fun r3 m3 hm3 => ⟨_, rfl, ?_, Fr.tr f2 (hm3.2.up (fun _ _ => S145_SQ))⟩)
      rw [e4, hm2.1, hm3.1]
      rfl
    | succ d ih =>
      intro k m hk hf
      have p2 := p2t (show k < 8 by omega)
      refine gX11_digest_396 ?_
      rw [n_cle (by omega) (by decide), b_1shl (by omega)]
      refine ⟨fun z => absurd (show 8 ≤ k from z) (by omega), fun _ => Sp.i (cM_cleanOf (h.fr hf) (by omega)) (fun r m2 hm2 v9 e9 => ?_)⟩
      have f2 := Fr.tr hf hm2.2
      refine Sp.i (cM_farOf (a := 0) (h.fr f2) (by decide) (by omega)) (fun r3 m3 hm3 v12 e12 => ?_)
      have f3 := Fr.tr f2 hm3.2
      refine Sp.i (cM_errandsOf (h := 0) (w := 0) (h.fr f3) (by decide) p2 (by decide)) (fun r4 m4 hm4 v15 e15 => ?_)
      have f4 := Fr.tr f3 hm4.2
      refine Sp.i (cM_errandsOf (h := 0) (w := 1) (h.fr f4) (by decide) p2 (by decide)) (fun r5 m5 hm5 v18 e18 v19 e19 => ?_)
      have kk := ih (k + 1) m5 (by omega) (Fr.tr f4 hm5.2)
      rw [d5_s] at kk
      rw [e19, n_addc, e18, e15, e12, e9, hm5.1, hm4.1, hm3.1, hm2.1]
      exact kk
  have k190 : ∀ d k m, k + d = 3 → Fr SQ μ m → Ex E MX11_digest (fun v ν => ∃ r : Int64, v = some (.long r) ∧ (r = dgV (LN tn tb) S tn tb s ∧ Fr SQ μ ν)) 190 [(0, .ref 123), (1, .long (d4 (LN tn tb) S tn tb s k)), (3, .int (nI (k + 1)))] [] m := by
    intro d
    induction d with
    | zero =>
      intro k m hk hf
      have : k = 3 := by omega
      subst this
      refine gX11_digest_190 ⟨fun _ => Sp.i (cM_sameOf (s := 1) (t := 2) (h.fr hf) (by decide) (by decide)) (fun r m2 hm2 v4 e4 => ?_), fun z => absurd (by decide) z⟩
      have kk := k396 8 0 m2 rfl (Fr.tr hf hm2.2)
      rw [d5_0] at kk
      rw [e4, hm2.1]
      exact kk
    | succ d ih =>
      intro k m hk hf
      have hw : 1 ≤ k + 1 ∧ k + 1 < 4 := by omega
      have hp := h.pok hw.2
      have p30 := hp.1
      have tw8 := jR_town (S := S) h hw
      have k256 : ∀ d j m, j + d = 5 → Fr SQ μ m → Ex E MX11_digest (fun v ν => ∃ r : Int64, v = some (.long r) ∧ (r = dgV (LN tn tb) S tn tb s ∧ Fr SQ μ ν)) 256 [(0, .ref 123), (1, .long (fF (fun j h => 31 * h + Int32.toInt64 (jV (jR (LN tn tb) S tn tb (k + 1) 0 0) j)) (dP1 (LN tn tb) tn tb (k + 1) (d4 (LN tn tb) S tn tb s k)) j)), (3, .int (nI (k + 1))), (4, .int (nI j))] [] m := by
        intro d
        induction d with
        | zero =>
          intro j m hj hf
          have : j = 5 := by omega
          subst this
          refine gX11_digest_256 ⟨fun _ => Sp.i (cM_judgedOf (tw := 0) (bg := 0) (w := 1) (h.fr hf) hw (by decide) (by decide) (by decide)) (fun r3 m2 hm2 => ?_), fun z => absurd (by decide) z⟩
          have f2 := Fr.tr hf hm2.2
          have e9 : r3 = nI (jR (LN tn tb) S tn tb (k + 1) 0 0).2.1 := hm2.1
          rw [e9]
          refine Sp.i (cM_foundOf (w := 0) (h.fr f2) hw (by decide)) (fun r4 m4 hm4 v6 e6 => ?_)
          have f4 := Fr.tr f2 hm4.2
          refine Sp.i (cM_foundOf (w := 1) (h.fr f4) hw (by decide)) (fun r5 m5 hm5 v9 e9 => ?_)
          have f5 := Fr.tr f4 hm5.2
          refine Sp.l (cM_shortestOf (f := 0) (a := 0) (w := 0) (h.fr f5) (by decide) (by decide) tw8 hw.2 (by decide)) (fun r11 m10 hm10 v12 e12 => ?_)
          have f10 := Fr.tr f5 hm10.2
          refine Sp.l (cM_shortestOf (f := 0) (a := 0) (w := 1) (h.fr f10) (by decide) (by decide) tw8 hw.2 (by decide)) (fun r14 m13 hm13 v15 e15 => ?_)
          have f13 := Fr.tr f10 hm13.2
          refine Sp.l (cM_manyOf (f := 0) (n := 6) (h.fr f13) hw.2 (by decide) tw8 (by decide)) (fun r17 m16 hm16 v18 e18 v19 e19 => ?_)
          have kk := ih (k + 1) m16 (by omega) (Fr.tr f13 hm16.2)
          rw [d4_s] at kk
          rw [e19, n_addc, e18, e15, e12, e9, e6, hm16.1, hm13.1, hm10.1, hm5.1, hm4.1]
          exact kk
        | succ d ihj =>
          intro j m hj hf
          refine gX11_digest_256 ?_
          rw [n_cle (by omega) (by decide)]
          refine ⟨fun z => absurd (show 5 ≤ j from z) (by omega), fun _ => Sp.i (cM_judgedOf (tw := 0) (bg := 0) (w := j) (h.fr hf) hw (by decide) (by decide) (by omega)) (fun r m2 hm2 v20 e20 v21 e21 => ?_)⟩
          rw [e20, e21, n_addc, hm2.1]
          exact ihj (j + 1) m2 (by omega) (Fr.tr hf hm2.2)
      refine gX11_digest_190 ?_
      rw [n_cle (by omega) (by decide)]
      refine ⟨fun z => absurd (show 4 ≤ k + 1 from z) (by omega), fun _ => Sp.v (cM_findPaper (w := 0) (by decide) hw.2 (h.fr hf)) (fun m5 hm5 v6 e6 => ?_)⟩
      have f5 := Fr.tr hf (hm5.2.2.up (T := SQ) (fun _ _ => SP_up))
      have P := hm5.1
      rw [P.1] at e6
      have k218 : ∀ d j, j + d = (PW (LN tn tb) tn tb (k + 1)).1 → Ex E MX11_digest (fun v ν => ∃ r : Int64, v = some (.long r) ∧ (r = dgV (LN tn tb) S tn tb s ∧ Fr SQ μ ν)) 218 [(0, .ref 123), (1, .long (fF (fun j h => 31 * h + Int32.toInt64 (nI (byO ((PW (LN tn tb) tn tb (k + 1)).2 j)))) (31 * d4 (LN tn tb) S tn tb s k + Int32.toInt64 (nI (PW (LN tn tb) tn tb (k + 1)).1)) j)), (3, .int (nI (k + 1))), (4, .int (nI j))] [] m5 := by
        intro d
        induction d with
        | zero =>
          intro j hj
          refine gX11_digest_218 ?_
          rw [P.1, n_le (by omega) (by omega)]
          refine ⟨fun _ => ?_, fun z => by omega⟩
          rw [show j = (PW (LN tn tb) tn tb (k + 1)).1 by omega]
          exact k256 5 0 m5 rfl f5
        | succ d ihj =>
          intro j hj
          have hl := hp.2 j (by omega)
          have rd := P.2 j (by omega)
          rw [show 60 * 0 + j = j by omega] at rd
          refine gX11_digest_218 ?_
          rw [P.1]
          simp (disch := omega) only [n_le, n_in, nI_clamp]
          rw [rd]
          refine ⟨fun z => by omega, fun _ => ⟨by omega, Rt.i (cM_byteOf (by omega)) (fun v5 e5 v6 e6 => ?_)⟩⟩
          rw [e5, e6, n_addc]
          exact ihj (j + 1) (by omega)
      rw [e6]
      exact k218 (PW (LN tn tb) tn tb (k + 1)).1 0 (by omega)
  have k71 : ∀ d k m, k + d = (LN tn tb).1 → Fr SQ μ m → ML m (LN tn tb) → Ex E MX11_digest (fun v ν => ∃ r : Int64, v = some (.long r) ∧ (r = dgV (LN tn tb) S tn tb s ∧ Fr SQ μ ν)) 71 [(0, .ref 123), (1, .long (d3 (LN tn tb) S tn tb s k)), (3, .int (nI k))] [] m := by
    intro d
    induction d with
    | zero =>
      intro k m hk hf hM
      refine gX11_digest_71 ?_
      rw [hM.2.2.2.1, n_le (by omega) (by omega)]
      refine ⟨fun _ => ?_, fun z => by omega⟩
      have kk := k190 3 0 m rfl hf
      rw [d4_0] at kk
      rw [show k = (LN tn tb).1 by omega]
      exact kk
    | succ d ih =>
      intro k m hk hf hM
      obtain ⟨q1, q2, q3, q4, q5⟩ := hM.2.2.2.2.2 k (by omega)
      have tail : ∀ (x : Int64), x = fF (fun k' h => 31 * h + Int32.toInt64 (gtV (LN tn tb) S k k')) (d3 (LN tn tb) S tn tb s k) 4 → Sp E MX11_changed [.ref 123, .int (nI k), .int ((-1)), .int ((-1)), .int 0] m (fun v m11 => ∃ r12 : Int32, v = some (.int r12) ∧ ∀ v13 : Int64, v13 = (((31)) * x) + (Int32.toInt64 r12) → Sp E MX11_changed [.ref 123, .int (nI k), .int ((-1)), .int ((-1)), .int 1] m11 (fun v m14 => ∃ r15 : Int32, v = some (.int r15) ∧ ∀ v16 : Int64, v16 = (((31)) * v13) + (Int32.toInt64 r15) → ∀ v17 : Int32, v17 = nI k + 1 → Ex E MX11_digest (fun v ν => ∃ r : Int64, v = some (.long r) ∧ (r = dgV (LN tn tb) S tn tb s ∧ Fr SQ μ ν)) 71 [(0, .ref 123), (1, .long v16), (3, .int v17)] [] m14)) := by
        intro x hx
        refine Sp.i (cM_changedW (w := 0) (h.fr hf) hM (by omega) (by decide)) (fun r m11 hm11 v13 e13 => ?_)
        have f11 := Fr.tr hf (hm11.2.up (T := SQ) (fun _ _ => S167_SQ))
        have M11 : ML m11 (LN tn tb) := hM.frS hm11.2 (by unfold S167; omega) (by unfold S167; omega) (fun k => by unfold S167; omega)
        refine Sp.i (cM_changedW (w := 1) (h.fr f11) M11 (by omega) (by decide)) (fun r2 m14 hm14 v16 e16 v17 e17 => ?_)
        have M14 : ML m14 (LN tn tb) := M11.frS hm14.2 (by unfold S167; omega) (by unfold S167; omega) (fun k => by unfold S167; omega)
        have kk := ih (k + 1) m14 (by omega) (Fr.tr f11 (hm14.2.up (fun _ _ => S167_SQ))) M14
        rw [d3_s] at kk
        rw [e17, n_addc, e16, e13, hx, hm11.1, hm14.1]
        exact kk
      refine gX11_digest_71 ?_
      rw [hM.2.2.2.1]
      simp (disch := omega) only [n_le, n_in, nI_clamp]
      rw [q3, q4, q5]
      refine ⟨fun z => by omega, fun _ => ⟨by omega, fun v3 e3 v4 e4 => ⟨fun z v6 e6 => Rt.i (cM_isShut hS (h.fr hf).2.2.2.2.2 (by omega)) ⟨fun z2 v10 e10 => tail v10 ?_, fun z2 v10 e10 => tail v10 ?_⟩, fun z v6 e6 => Rt.i (cM_isShut hS (h.fr hf).2.2.2.2.2 (by omega)) ⟨fun z2 v10 e10 => tail v10 ?_, fun z2 v10 e10 => tail v10 ?_⟩⟩⟩⟩
      all_goals
        rw [b2_0] at z2
        rw [e10, e6, e4, e3]
        show _ = 31 * (31 * (31 * (31 * _ + Int32.toInt64 (nI ((LN tn tb).2.1 k))) + Int32.toInt64 (nI ((LN tn tb).2.2.1 k))) + Int32.toInt64 (if (LN tn tb).2.2.2.1 k then 1 else 0)) + Int32.toInt64 (if S.testBit k then 1 else 0)
        cases hw : (LN tn tb).2.2.2.1 k <;> rw [hw] at z <;> first | exact absurd rfl z | exact absurd z (by decide) | skip
      · rw [show (if S.testBit k = true then (1 : Int32) else 0) = 0 from if_neg z2, fF_0]; rfl
      · rw [show (if S.testBit k = true then (1 : Int32) else 0) = 1 from if_pos (Decidable.not_not.1 z2), fF_0]; rfl
      · rw [show (if S.testBit k = true then (1 : Int32) else 0) = 0 from if_neg z2, fF_0]; rfl
      · rw [show (if S.testBit k = true then (1 : Int32) else 0) = 1 from if_pos (Decidable.not_not.1 z2), fF_0]; rfl
  have k33 : ∀ d k m, k + d = 4 → Fr SQ μ m → (0 < k → ML m (LN tn tb)) → Ex E MX11_digest (fun v ν => ∃ r : Int64, v = some (.long r) ∧ (r = dgV (LN tn tb) S tn tb s ∧ Fr SQ μ ν)) 33 [(0, .ref 123), (1, .long (d2 tn tb (d1 (LN tn tb) tn s 8) k)), (3, .int (nI k))] [] m := by
    intro d
    induction d with
    | zero =>
      intro k m hk hf hM
      have : k = 4 := by omega
      subst this
      have M := hM (by decide)
      refine gX11_digest_33 ⟨fun _ v2 e2 => ?_, fun z => absurd (by decide) z⟩
      have kk := k71 (LN tn tb).1 0 m (by omega) hf M
      rw [d3_0] at kk
      rw [e2, M.2.2.2.2.1]
      exact kk
    | succ d ih =>
      intro k m hk hf hM
      refine gX11_digest_33 ?_
      rw [n_cle (by omega) (by decide)]
      refine ⟨fun z => absurd (show 4 ≤ k from z) (by omega), fun _ => Sp.i (cM_faultOf (by omega) (h.fr hf)) (fun r m3 hm3 v5 e5 v6 e6 => ?_)⟩
      rw [e5, e6, n_addc, hm3.1]
      exact ih (k + 1) m3 (by omega) (Fr.tr hf hm3.2.2.2) (fun _ => hm3.2.1)
  have k6 : ∀ d k m, k + d = 8 → Fr SQ μ m → Ex E MX11_digest (fun v ν => ∃ r : Int64, v = some (.long r) ∧ (r = dgV (LN tn tb) S tn tb s ∧ Fr SQ μ ν)) 6 [(0, .ref 123), (1, .long (d1 (LN tn tb) tn s k)), (3, .int (nI k))] [] m := by
    intro d
    induction d with
    | zero =>
      intro k m hk hf
      have : k = 8 := by omega
      subst this
      have kk := k33 4 0 m rfl hf (fun w => absurd w (by decide))
      rw [d2_0] at kk
      exact gX11_digest_6 ⟨fun _ => kk, fun z => absurd (by decide) z⟩
    | succ d ih =>
      intro k m hk hf
      refine gX11_digest_6 ?_
      rw [n_cle (by omega) (by decide)]
      refine ⟨fun z => absurd (show 8 ≤ k from z) (by omega), fun _ => Sp.i (cM_count (h.fr hf) (hL.fr hf) (by omega)) (fun r m2 hm2 v7 e7 v8 e8 => ?_)⟩
      rw [e7, e8, n_addc, hm2.1]
      exact ih (k + 1) m2 (by omega) (Fr.tr hf hm2.2)
  exact k6 8 0 μ rfl Fr.rf
theorem op_digest (h : RC μ tn tb S) (hL : RLi μ s) : OpL E MX10_digest MX11_digest [] μ (fun ν => Fr SQ μ ν) := by
  refine Sp.l (cX_digest h hL) (fun r m hm => ?_)
  exact Sp.mono (cM_digest (h.fr hm.2) (hL.fr hm.2)) (fun v ν ⟨r2, e, q1, q2⟩ => ⟨by rw [e, q1, hm.1], Fr.tr hm.2 q2⟩)
end DIGEST
