section SPREAD
variable {E : EV} {μ ν : Mem} {A : Nat → Nat → Prop} {d src : Nat}
def Dok (d : Nat) : Prop := kd d = 0 ∧ kd (d + 10) = 20 ∧ ln (d + 10) = 8 ∧ ∀ j, j < 8 → kd (d + 2 + j) = 20 ∧ ln (d + 2 + j) = 8
def Dmsk (μ : Mem) (d : Nat) (A : Nat → Nat → Prop) : Prop := ∀ c, c < 8 → ∃ w, w < 256 ∧ μ.1 (d + 10) c = nI w ∧ ∀ b, b < 8 → (w.testBit b = true ↔ A c b)
def Dmem (μ m : Mem) (d src : Nat) (R : Nat → Option Nat) (Q : Nat → Nat) (q : Nat) : Prop := (∀ b, b < 8 → m.1 (d + 2 + src) b = oI (R b)) ∧ (∀ i, i < q → m.1 (d + 11) i = nI (Q i)) ∧ Fr (fun o _ => o = d + 2 + src ∨ o = d + 11) μ m
theorem tb_not {s b : Nat} (hs : s < 256) (hb : b < 8) : (4294967295 - s).testBit b = !s.testBit b := by
  rw [show 4294967295 - s = 2 ^ 32 - (s + 1) by omega, Nat.testBit_two_pow_sub_succ (show s < 2 ^ 32 by omega)]
  simp [show b < 32 by omega]
theorem cD_spread (hd : Dok d) (hs : src < 8) (hm : Dmsk μ d A) : Sp E MX0_spread [.ref d, .int (nI src)] μ (fun v ν => v = none ∧ ((∀ b, b < 8 → ν.1 (d + 2 + src) b = oI (dst A src b)) ∧ Fr (fun o _ => o = d + 2 + src ∨ o = d + 11) μ ν)) := by
  obtain ⟨k0, k1, k2, k3⟩ := hd
  obtain ⟨r1, r2⟩ := k3 src hs
  have key : ∀ n h q R Q sn m, h + n = 8 → h ≤ q → dBI A src R Q q h → Dmem μ m d src R Q q → sn < 256 → (∀ b, b < 8 → (sn.testBit b = true ↔ R b ≠ none)) → Ex E MX0_spread (fun v ν => v = none ∧ ((∀ b, b < 8 → ν.1 (d + 2 + src) b = oI (dst A src b)) ∧ Fr (fun o _ => o = d + 2 + src ∨ o = d + 11) μ ν)) 33 [(0, .ref d), (1, .int (nI src)), (2, .ref (d + 2 + src)), (3, .int (nI q)), (4, .int (nI sn)), (5, .int (nI h))] [] m := by
    intro n
    induction n with
    | zero =>
      intro h q R Q sn m hn hq hB hM hsn hb
      have q8 : q ≤ 8 := by rw [hB.2.2.1]; exact ct_le _ 8
      refine gX0_spread_33 k0 r1 r2 ?_
      simp (disch := omega) only [n_le]
      refine ⟨fun _ => ⟨(by first | rfl | trivial), fun b hb => ?_, hM.2.2⟩, fun z => by omega⟩
      rw [hM.1 b hb, hB.fin (by omega) b hb]
    | succ n ih =>
      intro h q R Q sn m hn hq hB hM hsn hb
      have q8 : q ≤ 8 := by rw [hB.2.2.1]; exact ct_le _ 8
      refine gX0_spread_33 k0 r1 r2 ?_
      simp (disch := omega) only [n_le, n_cle, n_in, nI_clamp]
      refine ⟨fun z => ⟨(by first | rfl | trivial), fun b hb => ?_, hM.2.2⟩, fun z => ⟨fun z2 => by omega, fun _ => ⟨by omega, fun v4 e4 => ?_⟩⟩⟩
      · rw [hM.1 b hb, hB.fin z b hb]
      obtain ⟨H8, n0, hn0, n0h⟩ := hB.1 h (by omega)
      obtain ⟨w, w8, wm, wA⟩ := hm (Q h) H8
      rw [hM.2.1 h (by omega)] at e4
      subst e4
      simp (disch := omega) only [n_in, nI_clamp]
      refine ⟨by omega, fun v6 e6 v7 e7 => ?_⟩
      rw [(hM.2.2 (d + 10) (Q h) (by omega)).1, wm, b_not (by omega), b_and (by omega) (by omega)] at e6
      have fl := Nat.and_le_left (n := w) (m := 4294967295 - sn)
      rw [e6, b_or (by omega) (by omega)] at e7
      subst e6
      subst e7
      have fb : ∀ b, b < 8 → ((w &&& (4294967295 - sn)).testBit b = true ↔ (A (Q h) b ∧ R b = none)) := by
        intro b hb8
        rw [Nat.testBit_and, tb_not hsn hb8]
        have h1 := wA b hb8
        have h2 := hb b hb8
        cases c1 : w.testBit b <;> cases c2 : sn.testBit b <;> rw [c1] at h1 <;> rw [c2] at h2 <;> simp_all
      generalize hf : w &&& (4294967295 - sn) = f at fb fl
      have Hc : ∀ b, b < 8 → ((sn ||| f).testBit b = true ↔ (R b ≠ none ∨ f.testBit b = true)) := by
        intro b hb8
        rw [Nat.testBit_or, Bool.or_eq_true, hb b hb8]
      have sf : sn ||| f < 256 := Nat.or_lt_two_pow (n := 8) hsn (by omega)
      have inner : ∀ e t R' Q' q' m', t + e = 8 → h < q' → dBI A src R' Q' q' h → Dmem μ m' d src R' Q' q' → R' (Q h) = some n0 → Q' h = Q h → (∀ b, b < 8 → (R' b ≠ none ↔ (R b ≠ none ∨ (f.testBit b = true ∧ b < t)))) → Ex E MX0_spread (fun v ν => v = none ∧ ((∀ b, b < 8 → ν.1 (d + 2 + src) b = oI (dst A src b)) ∧ Fr (fun o _ => o = d + 2 + src ∨ o = d + 11) μ ν)) 79 [(0, .ref d), (1, .int (nI src)), (2, .ref (d + 2 + src)), (3, .int (nI q')), (4, .int (nI (sn ||| f))), (5, .int (nI h)), (6, .int (nI (Q h))), (7, .int (nI f)), (8, .int (nI t))] [] m' := by
        intro e
        induction e with
        | zero =>
          intro t R' Q' q' m' ht hq' hB' hM' hR' hQ' hbb
          refine gX0_spread_79 k0 r1 r2 ?_
          simp (disch := omega) only [n_cle]
          refine ⟨fun _ v2 e2 => ?_, fun z => by omega⟩
          rw [e2, n_addc]
          refine ih (h + 1) q' R' Q' _ m' (by omega) (by omega) (hB'.next hq' (fun c hc hAc => ?_)) hM' sf (fun b hb8 => ?_)
          · rw [hbb c hc]
            by_cases cc : R c = none
            · exact Or.inr ⟨(fb c hc).2 ⟨hQ' ▸ hAc, cc⟩, by omega⟩
            · exact Or.inl cc
          · rw [Hc b hb8, hbb b hb8]
            exact ⟨fun w => w.imp id (fun w => ⟨w, by omega⟩), fun w => w.imp id (fun w => w.1)⟩
        | succ e ihe =>
          intro t R' Q' q' m' ht hq' hB' hM' hR' hQ' hbb
          have q8' : q' ≤ 8 := by rw [hB'.2.2.1]; exact ct_le _ 8
          refine gX0_spread_79 k0 r1 r2 ?_
          have fdl : f / 2 ^ t < 2 ^ 31 := Nat.lt_of_le_of_lt (Nat.div_le_self _ _) (by omega)
          rw [b_shr (by omega) (by omega), b_and1 fdl]
          simp (disch := omega) only [n_cle, n_eq0, n_eqc, n_in, nI_clamp]
          have tbd := tb_div f t
          refine ⟨fun z => by omega, fun _ => ⟨fun z v4 e4 => ?_, fun z => ⟨fun z2 v6 e6 => ?_, fun z2 => ?_⟩⟩⟩
          · have nb : ∀ b, b < 8 → t ≤ b → ¬ f.testBit b = true := by
              intro b hb8 htb hc
              have : f < 2 ^ t := by
                have := Nat.div_eq_zero_iff (a := f) (b := 2 ^ t)
                rcases this.1 z with q | q
                · exact absurd q (by exact Nat.ne_of_gt (Nat.two_pow_pos t))
                · exact q
              rw [Nat.testBit_lt_two_pow (Nat.lt_of_lt_of_le this (Nat.pow_le_pow_right (by decide) htb))] at hc
              cases hc
            rw [e4, n_addc]
            refine ih (h + 1) q' R' Q' _ m' (by omega) (by omega) (hB'.next hq' (fun c hc hAc => ?_)) hM' sf (fun b hb8 => ?_)
            · rw [hbb c hc]
              by_cases cc : R c = none
              · have := (fb c hc).2 ⟨hQ' ▸ hAc, cc⟩
                exact Or.inr ⟨this, by by_cases l : c < t; exact l; exact absurd this (nb c hc (by omega))⟩
              · exact Or.inl cc
            · rw [Hc b hb8, hbb b hb8]
              exact ⟨fun w => w.imp id (fun w => ⟨w, by by_cases l : b < t; exact l; exact absurd w (nb b hb8 (by omega))⟩), fun w => w.imp id (fun w => w.1)⟩
          · have nb : ¬ f.testBit t = true := fun c => by rw [tbd, if_pos c] at z2; exact z2 rfl
            rw [e6, n_addc]
            refine ihe (t + 1) R' Q' q' m' (by omega) hq' hB' hM' hR' hQ' (fun b hb8 => ?_)
            rw [hbb b hb8]
            exact ⟨fun w => w.imp id (fun w => ⟨w.1, by omega⟩), fun w => w.imp id (fun w => ⟨w.1, by by_cases l : b = t; exact absurd (l ▸ w.1) nb; omega⟩)⟩
          · have ib : f.testBit t = true := by
              cases c : f.testBit t with
              | true => rfl
              | false => rw [tbd, c] at z2; exact absurd z2 (by decide)
            have fbt := (fb t (by omega)).1 ib
            have Rt0 : R' t = none := by
              cases c : R' t with
              | none => rfl
              | some x =>
                rcases (hbb t (by omega)).1 (by rw [c]; exact fun z => by cases z) with w | w
                · exact absurd fbt.2 w
                · omega
            have hRh : R' (Q' h) = some n0 := by rw [hQ']; exact hR'
            obtain ⟨q8'', hB2⟩ := hB'.add hq' hRh (by rw [hQ']; exact fbt.1) (by omega) Rt0
            refine ⟨fun z3 => by omega, fun _ => ⟨by omega, fun v10 e10 => ⟨by omega, by omega, fun v13 e13 v14 e14 => ?_⟩⟩⟩
            rw [hM'.1 (Q h) H8, hR'] at e10
            have e10 : v10 = nI n0 + 1 := e10
            rw [n_addc] at e10
            rw [e10, e13, e14, n_addc, n_addc]
            have tH : t ≠ Q h := fun c => by rw [← c, Rt0] at hR'; cases hR'
            refine ihe (t + 1) _ _ (q' + 1) _ (by omega) (by omega) hB2 ⟨fun b hb8 => ?_, fun i hi => ?_, ?_⟩ ?_ ?_ (fun b hb8 => ?_)
            · rw [mI_1, if_neg (by omega), mI_1]
              show _ = oI (if b = t then some (n0 + 1) else R' b)
              by_cases c : b = t
              · rw [if_pos ⟨rfl, c⟩, if_pos c]; rfl
              · rw [if_neg (fun w => c w.2), if_neg c]; exact hM'.1 b hb8
            · rw [mI_1]
              show _ = nI (if i = q' then t else Q' i)
              by_cases c : i = q'
              · rw [if_pos ⟨rfl, c⟩, if_pos c]
              · rw [if_neg (fun w => c w.2), if_neg c, mI_1, if_neg (by omega)]; exact hM'.2.1 i (by omega)
            · exact Fr.tr hM'.2.2 (Fr.tr (Fr.I (Or.inl rfl)) (Fr.I (Or.inr rfl)))
            · show (if Q h = t then some (n0 + 1) else R' (Q h)) = _
              rw [if_neg (fun c => tH c.symm)]
              exact hR'
            · show (if h = q' then t else Q' h) = _
              rw [if_neg (by omega)]
              exact hQ'
            · show (if b = t then some (n0 + 1) else R' b) ≠ none ↔ _
              by_cases c : b = t
              · rw [if_pos c]
                exact ⟨fun _ => Or.inr ⟨c ▸ ib, by omega⟩, fun _ z => (by cases z)⟩
              · rw [if_neg c, hbb b hb8]
                exact ⟨fun w => w.imp id (fun w => ⟨w.1, by omega⟩), fun w => w.imp id (fun w => ⟨w.1, by omega⟩)⟩
      exact inner 8 0 R Q q m (by omega) (by omega) hB hM hn0 rfl (fun b hb8 => ⟨fun w => Or.inl w, fun w => w.elim id (fun w => by omega)⟩)
  refine Sp.go rfl rfl rfl (gX0_spread_0 k0 ?_)
  simp (disch := omega) only [n_in, nI_clamp]
  refine ⟨by omega, Rt.v (cJ_fill r1 r2 (by omega)) (fun v3 e3 => ?_)⟩
  rw [b_1shl (by omega)] at e3
  rw [e3]
  have p256 : 2 ^ src < 256 := Nat.lt_of_lt_of_le (Nat.pow_lt_pow_right (by decide) hs) (by decide)
  refine key 8 0 1 (fun b => if b = src then some 0 else none) (fun _ => src) (2 ^ src) _ rfl (by omega) ⟨fun i hi => ⟨hs, 0, if_pos rfl, by omega⟩, fun b hb hbn => ⟨0, by omega, ?_⟩, ?_, fun i j m n _ _ hm hn => ?_, fun j m n _ _ hm hn => ?_, if_pos rfl, fun c hc hcz => ?_, fun c m hc hcm => ?_, fun i c n hi => by omega⟩ ⟨fun b hb => ?_, fun i hi => ?_, ?_⟩ p256 (fun b hb => ?_)
  · by_cases c : b = src
    · exact c.symm
    · exact absurd (if_neg c) hbn
  · have := ct_up (w := fun _ => false) (v := fun b => (if b = src then some 0 else none : Option Nat).isSome) (t := src) 8 hs rfl (by rw [if_pos rfl]; rfl) (fun j hj => by rw [if_neg hj]; rfl)
    rw [this]
    rfl
  · simp only [if_true] at hm hn
    cases hm; cases hn; omega
  · simp only [if_true] at hm hn
    cases hm; cases hn; omega
  · by_cases e : c = src
    · exact e
    · simp [e] at hcz
  · by_cases e : c = src
    · simp [e] at hcm
    · simp [e] at hcm
  · rw [mI_1, if_neg (by omega), mI_1]
    by_cases c : b = src
    · rw [if_pos ⟨rfl, c⟩]
      show _ = oI (if b = src then some 0 else none)
      rw [if_pos c]; rfl
    · rw [if_neg (fun w => c w.2), mFI_1, if_pos ⟨rfl, by omega, by omega⟩]
      show _ = oI (if b = src then some 0 else none)
      rw [if_neg c]; rfl
  · rw [mI_1, if_pos ⟨rfl, by omega⟩]
  · exact Fr.tr (Fr.FI (fun _ _ _ => Or.inl rfl)) (Fr.tr (Fr.I (Or.inl rfl)) (Fr.I (Or.inr rfl)))
  · rw [Nat.testBit_two_pow, decide_eq_true_iff]
    by_cases c : b = src
    · rw [if_pos c]; exact ⟨fun _ z => (by cases z), fun _ => c.symm⟩
    · rw [if_neg c]; exact ⟨fun w => absurd w.symm c, fun w => absurd rfl w⟩
end SPREAD
