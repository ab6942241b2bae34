section LETTER2
variable {E : EV} {μ ν : Mem} {L : LD} {S N : Nat} {B : Nat → Nat} {f t i : Nat} {tn : Nat → Nat} {tb : Nat → Nat → Nat} {p q : PA}
theorem cM_letterLoop {x2 x4 : Int32} {Q : Po} (hC : ML μ L) (hS : S < 512) (h13 : μ.1 123 13 = nI S) (hU : UN μ L S) (hN : NDm μ N B) (hB : Bok L N B) (hf : f < 8) (ht : t < 8) (hr : rok L S N B f t (N + 1)) (hi : i < N + rsm L S N B f t (N + 1)) (hq : ∀ l, l < 2 * L.1 → rlR L S N B f t i l → Q (some (.int (nI (byO l)))) μ) : Ex E MX11_letter Q 59 [(0, .ref 123), (1, .int (nI f)), (2, .int x2), (3, .int (nI t)), (4, .int x4), (5, .int (nI i)), (6, .int (nI f)), (7, .int 0), (8, .int (-1)), (9, .int 0)] [] μ := by
  have hL := hC.ok
  have h9 := hL.1
  have b60 := hB.1
  have sb := rsm_le (S := S) (t := t) hL hB hf (N + 1) (Nat.le_refl _)
  have tot : N + rsm L S N B f t (N + 1) = rps L S N B f t N + rDn L S N B f t N := by
    unfold rps rDn
    show N + (rsm L S N B f t N + (rD L S N B f t N).getD 1000) = _
    omega
  have key : ∀ d n k j (x : Int32), n + d = i + 1 → k ≤ N → n = rps L S N B f t k + j → j ≤ rDn L S N B f t k → (0 < n → ∃ l, l < 2 * L.1 ∧ x = nI l ∧ rlR L S N B f t (n - 1) l) → Ex E MX11_letter Q 59 [(0, .ref 123), (1, .int (nI f)), (2, .int x2), (3, .int (nI t)), (4, .int x4), (5, .int (nI i)), (6, .int (nI (lpT L S (og L B f k) (gl L N B t k) (rDn L S N B f t k) j))), (7, .int (nI k)), (8, .int x), (9, .int (nI n))] [] μ := by
    intro d
    induction d with
    | zero =>
      intro n k j x hn hk hp hj hx
      have : n = i + 1 := by omega
      subst this
      obtain ⟨l, l1, l2, l3⟩ := hx (by omega)
      refine gX11_letter_59 ?_
      rw [n_lt (by omega) (by omega)]
      refine ⟨fun _ => ?_, fun z => by omega⟩
      rw [l2]
      exact Rt.i (cM_byteOf (by omega)) (hq l l1 l3)
    | succ d ih =>
      intro n k j x hn hk hp hj hx
      have o8 := og_lt (i := k) hL hB hf hk
      have g8 := gl_lt (i := k) hL hB ht
      have hD := rD_s hr hk
      obtain ⟨T8, hT⟩ := lpT_ok hL o8 g8 hD j hj
      have D9 := (dst_8 o8 hD).1
      have eqg : (lpT L S (og L B f k) (gl L N B t k) (rDn L S N B f t k) j = gl L N B t k) ↔ j = rDn L S N B f t k := by
        constructor
        · intro w
          rw [w, dst_refl] at hT
          have := Option.some.inj hT
          omega
        · intro w
          rw [w, Nat.sub_self] at hT
          rw [w]
          exact dst_zero hT
      have lane : j < rDn L S N B f t k → ∀ g : Nat, g = gl L N B t k → Sp E MX11_leastUnseen [.ref 123, .int (nI (lpT L S (og L B f k) (gl L N B t k) (rDn L S N B f t k) j)), .int (nI g)] μ (fun v m6 => ∃ r7 : Int32, v = some (.int r7) ∧ Sp E MX11_end [.ref 123, .int r7] m6 (fun v m8 => ∃ r9 : Int32, v = some (.int r9) ∧ ∀ v10 : Int32, v10 = nI n + 1 → Ex E MX11_letter Q 59 [(0, .ref 123), (1, .int (nI f)), (2, .int x2), (3, .int (nI t)), (4, .int x4), (5, .int (nI i)), (6, .int r9), (7, .int (nI k)), (8, .int r7), (9, .int v10)] [] m8)) := by
        intro hl g eg
        subst eg
        have h2 := hT
        rw [show rDn L S N B f t k - j = (rDn L S N B f t k - j - 1) + 1 by omega] at h2
        have gd := nlL_is hL T8 g8 h2
        refine Rt.i (cM_leastUnseen hC hS h13 hU T8 g8 h2) (Rt.i (cM_end hC gd.1) (fun v10 e10 => ?_))
        rw [e10, n_addc]
        refine ih (n + 1) k (j + 1) _ (by omega) hk (by omega) (by omega) (fun _ => ⟨_, gd.1, rfl, k, j, hk, by omega, Or.inl ⟨hl, rfl⟩⟩)
      refine gX11_letter_59 ?_
      rw [n_lt (by omega) (by omega), hN.1]
      simp (disch := omega) only [n_le, n_in, nI_clamp]
      refine ⟨fun z => by omega, fun _ => ⟨fun z => ?_, fun z => ?_⟩⟩
      · have kN : k = N := by omega
        have eg : gl L N B t k = t := by unfold gl; rw [if_neg (by omega)]
        rw [n_eq (by omega) (by omega)]
        have jl : j < rDn L S N B f t k := by rw [kN] at hp ⊢; omega
        refine ⟨fun _ => lane jl t eg.symm, fun z2 => ?_⟩
        have := eqg.1 (by rw [z2]; exact eg.symm)
        omega
      · have eg : gl L N B t k = lS L (B k) := by unfold gl; rw [if_pos (by omega)]
        have kl := hB.2 k (by omega)
        rw [hN.2 k (by omega)]
        refine ⟨by omega, Rt.i (cM_start hC kl) ?_⟩
        rw [n_eq (by omega) (by omega), ← eg, eqg]
        refine ⟨fun z2 => lane (by omega) _ rfl, fun z2 v26 e26 v27 e27 => ?_⟩
        rw [hN.2 k (by omega)] at e26
        rw [e26, e27, n_addc]
        refine Rt.i (cM_end hC kl) (fun v30 e30 => ?_)
        rw [e30, n_addc]
        refine ih (n + 1) (k + 1) 0 _ (by omega) (by omega) ?_ (by omega) (fun _ => ⟨_, kl, rfl, k, j, hk, by omega, Or.inr ⟨by omega, z2, rfl⟩⟩)
        rw [rps_s]
        omega
  exact key (i + 1) 0 0 0 _ (by omega) (by omega) rfl (by omega) (fun w => by omega)
theorem op_letter (h : RC μ tn tb S) (x y z u v : Int32) : Op E MX10_letter MX11_letter [.int x, .int y, .int z, .int u, .int v] μ (fun ν => Fr SQ μ ν) := by
  by_cases c : (Rg x 0 7 ∧ Rg y 0 3 ∧ Rg z 0 7 ∧ Rg u 0 3)
  · have okC : ¬ b2 (Rg x 0 7 ∧ Rg y 0 3 ∧ Rg z 0 7 ∧ Rg u 0 3) = 0 := by rw [b2_0]; exact fun w => w c
    by_cases c2 : (0 : Int32) ≤ v
    · obtain ⟨c1, c3, c4, c5⟩ := id c
      obtain ⟨f, hf, rfl⟩ := Rg.nat (x := x) (b := 7) c1
      obtain ⟨a, ha, rfl⟩ := Rg.nat (x := y) (b := 3) c3
      obtain ⟨t, ht, rfl⟩ := Rg.nat (x := z) (b := 7) c4
      obtain ⟨b, hb, rfl⟩ := Rg.nat (x := u) (b := 3) c5
      obtain ⟨i, hi, rfl⟩ := Rg.nat (x := v) (b := 2147483647) ⟨by rw [i_le] at c2; exact c2, by have := v.toInt_lt; omega⟩
      have hf : f < 8 := by omega
      have ha : a < 4 := by omega
      have ht : t < 8 := by omega
      have hb : b < 4 := by omega
      have hB := Bok_bt (h.pok ha) (h.pok hb)
      have sb := rsm_le (S := S) (t := t) h.2.1.ok hB hf (_ + 1) (Nat.le_refl _)
      have b60 := hB.1
      refine Sp.go rfl rfl rfl (gX10_letter_0 (Rt.i (cX_areEnds _ _ _ _) ⟨fun w => absurd w okC, fun _ => ⟨fun _ => Sp.i (cX_planRoute h hf ha ht hb) (fun r m hm => ?_), fun w => absurd c2 w⟩⟩))
      obtain ⟨q1, q2, q3⟩ := hm
      have none' : ∀ ν, Fr SQ μ ν → (∀ ν', SHm ν' (shC (LN tn tb) S (PW (LN tn tb) tn tb a) (PW (LN tn tb) tn tb b) f t) (btN (PW (LN tn tb) tn tb a) (PW (LN tn tb) tn tb b) + rsm (LN tn tb) S (btN (PW (LN tn tb) tn tb a) (PW (LN tn tb) tn tb b)) (btA (PW (LN tn tb) tn tb a) (PW (LN tn tb) tn tb b)) f t (btN (PW (LN tn tb) tn tb a) (PW (LN tn tb) tn tb b) + 1)) (rpr (LN tn tb) S (btN (PW (LN tn tb) tn tb a) (PW (LN tn tb) tn tb b)) (btA (PW (LN tn tb) tn tb a) (PW (LN tn tb) tn tb b)) f t (btN (PW (LN tn tb) tn tb a) (PW (LN tn tb) tn tb b) + 1)) → ¬ ν'.1 123 23 = 0 → ¬ nI i < ν'.1 123 21) → Sp E MX11_letter [.ref 123, .int (nI f), .int (nI a), .int (nI t), .int (nI b), .int (nI i)] ν (fun v' ξ => v' = some (.int (-1)) ∧ Fr SQ μ ξ) := by
        intro ν hfr hno
        refine Sp.go rfl rfl rfl (gX11_letter_0 (Rt.i (cM_isAsked _ _ _ _) ⟨fun w => absurd w okC, fun _ => ⟨fun _ => Sp.v (cM_findShortest (h.fr hfr) hf ha ht hb) (fun m5 h5 => ?_), fun w => absurd c2 w⟩⟩))
        have F5 := Fr.tr hfr h5.2.2.2.2
        exact ⟨fun _ => ⟨rfl, F5⟩, fun w => ⟨fun w2 => absurd w2 (hno m5 h5.1 w), fun _ => ⟨rfl, F5⟩⟩⟩
      by_cases sc : shC (LN tn tb) S (PW (LN tn tb) tn tb a) (PW (LN tn tb) tn tb b) f t = true
      · obtain ⟨r1, r2, r3⟩ := q1 sc
        rw [r1, n_le (by omega) (by omega)]
        refine ⟨fun w => ⟨_, rfl, none' m q3 (fun ν' hs _ => ?_)⟩, fun w => ?_⟩
        · rw [hs.2.1, n_lt (by omega) (by omega)]
          omega
        · refine Sp.i (cR_leastLetter r2 hf ht r3 (by omega)) (fun r m8 h8 => ?_)
          obtain ⟨l, l1, l2, l3, l4⟩ := h8
          subst l4
          have h9 := h.2.1.1
          rw [l2]
          refine Rt.i (cX_byteOf (by omega)) ⟨_, rfl, ?_⟩
          refine Sp.go rfl rfl rfl (gX11_letter_0 (Rt.i (cM_isAsked _ _ _ _) ⟨fun w => absurd w okC, fun _ => ⟨fun _ => Sp.v (cM_findShortest (h.fr q3) hf ha ht hb) (fun m5 h5 => ?_), fun w => absurd c2 w⟩⟩))
          obtain ⟨⟨s1, s2, s3⟩, D5, U5, M5, F5'⟩ := h5
          have F5 := Fr.tr q3 F5'
          have h5' := h.fr F5
          rw [s1, s2, bI_0, sc, n_lt (by omega) (by omega)]
          refine ⟨fun w => (by cases w), fun _ => ⟨fun w2 => ?_, fun w2 => (by omega)⟩⟩
          refine cM_letterLoop M5 h5'.2.2.2.1 h5'.2.2.2.2.2 U5 D5 hB hf ht r3 (by omega) (fun l' hl' hR => ⟨?_, F5⟩)
          rw [rlR_un hR l3]
      · rw [q2 sc]
        refine ⟨fun _ => ⟨_, rfl, none' m q3 (fun ν' hs w => ?_)⟩, fun w => ?_⟩
        · rw [hs.1, bI_0] at w
          exact absurd (by cases q : shC (LN tn tb) S (PW (LN tn tb) tn tb a) (PW (LN tn tb) tn tb b) f t; rfl; exact absurd q sc) w
        · refine absurd ?_ w
          rw [m1_le, nI_toInt (by omega)]
          omega
    · refine Sp.go rfl rfl rfl (gX10_letter_0 (Rt.i (cX_areEnds _ _ _ _) ⟨fun w => absurd w okC, fun _ => ⟨fun w => absurd w c2, fun _ => ⟨_, rfl, ?_⟩⟩⟩))
      exact Sp.go rfl rfl rfl (gX11_letter_0 (Rt.i (cM_isAsked _ _ _ _) ⟨fun w => absurd w okC, fun _ => ⟨fun w => absurd w c2, fun _ => ⟨rfl, Fr.rf⟩⟩⟩))
  · refine Sp.go rfl rfl rfl (gX10_letter_0 (Rt.i (cX_areEnds _ _ _ _) ⟨fun w => ⟨_, rfl, ?_⟩, fun w => absurd (b2_f c) w⟩))
    exact Sp.go rfl rfl rfl (gX11_letter_0 (Rt.i (cM_isAsked _ _ _ _) ⟨fun _ => ⟨rfl, Fr.rf⟩, fun w => absurd (b2_f c) w⟩))
end LETTER2
