section LETS2
variable {E : EV} {μ ν : Mem} {tn : Nat → Nat} {tb : Nat → Nat → Nat} {S : Nat} {q : PA} {s : LZ}
theorem fit_and {f g : PF} {P : Nat} (hP : P < 2048) : (nI (wb 11 (uw f g)) &&& nI P = 0) = fitP f g P := by
  have h1 := wb_b (uw f g) (k := 11) (by omega)
  have h2 := Nat.and_le_right (n := wb 11 (uw f g)) (m := P)
  rw [b_and (by omega) (by omega), n_eq0 (by omega)]
theorem cI_letsBy {P g m : Nat} (hP2 : P < 2048) (hg : g ≤ 9) (hm : m ≤ 60) (hB : LB s) (hC : LC μ s) (hP : PCl μ 4 q) (hq : Pok g m q) : Rt E MX4_letsBy [.ref 78, .ref 4, .int (nI P)] μ (some (.int (b2 (lta s (pat q) P s.1 0 = true)))) μ := by
  have h12 := hB.1
  refine Sp.go rfl rfl rfl (gX4_letsBy_0 (by decide) ?_)
  have key : ∀ d k, k + d = s.1 → lta s (pat q) P d k = lta s (pat q) P s.1 0 → Ex E MX4_letsBy (fun v m => v = some (.int (b2 (lta s (pat q) P s.1 0 = true))) ∧ m = μ) 2 [(0, .ref 78), (1, .ref 4), (2, .int (nI P)), (3, .int (nI k))] [] μ := by
    intro d
    induction d with
    | zero =>
      intro k hk he
      refine gX4_letsBy_2 (by decide) ?_
      rw [hC.1]
      simp (disch := omega) only [n_le]
      refine ⟨fun _ => ⟨?_, (by first | rfl | trivial)⟩, fun z => by omega⟩
      rw [← he]
      rfl
    | succ d ih =>
      intro k hk he
      have he' : (if s.2.2 k = true ∧ fitP (pat q) (pat (s.2.1 k)) P then true else lta s (pat q) P d (k + 1)) = lta s (pat q) P s.1 0 := he
      refine gX4_letsBy_2 (by decide) ?_
      rw [hC.1]
      simp (disch := omega) only [n_le, n_in, nI_clamp]
      rw [(hC.2 k (by omega)).2.1, b2_1]
      refine ⟨fun z => by omega, fun _ => ⟨by omega, fun z v4 e4 => ?_, fun z => Rt.i (cI_unlikeAt hg hm hB hC hP hq (by omega)) ?_⟩⟩
      · rw [e4, n_addc]
        exact ih (k + 1) (by omega) (by rw [← he', if_neg (fun w => z w.1)])
      · rw [fit_and hP2]
        refine ⟨fun z2 v8 e8 => ?_, fun z2 => ⟨?_, (by first | rfl | trivial)⟩⟩
        · rw [e8, n_addc]
          exact ih (k + 1) (by omega) (by rw [← he', if_neg (fun w => z2 w.2)])
        · rw [← he', if_pos ⟨z, z2⟩]
          rfl
  exact key s.1 0 (by omega) rfl
theorem cI_isLetBy {P k0 : Nat} (hP2 : P < 2048) (hB : LB s) (hC : LC μ s) (hk0 : k0 < s.1) : Rt E MX4_isLetBy [.ref 78, .int (nI k0), .int (nI P)] μ (some (.int (b2 (lta s (pat (s.2.1 k0)) P s.1 0 = true)))) μ := by
  have h12 := hB.1
  refine Sp.go rfl rfl rfl (gX4_isLetBy_0 ?_)
  have key : ∀ d k, k + d = s.1 → lta s (pat (s.2.1 k0)) P d k = lta s (pat (s.2.1 k0)) P s.1 0 → Ex E MX4_isLetBy (fun v m => v = some (.int (b2 (lta s (pat (s.2.1 k0)) P s.1 0 = true))) ∧ m = μ) 2 [(0, .ref 78), (1, .int (nI k0)), (2, .int (nI P)), (3, .int (nI k))] [] μ := by
    intro d
    induction d with
    | zero =>
      intro k hk he
      refine gX4_isLetBy_2 ?_
      rw [hC.1]
      simp (disch := omega) only [n_le]
      refine ⟨fun _ => ⟨?_, (by first | rfl | trivial)⟩, fun z => by omega⟩
      rw [← he]
      rfl
    | succ d ih =>
      intro k hk he
      have he' : (if s.2.2 k = true ∧ fitP (pat (s.2.1 k0)) (pat (s.2.1 k)) P then true else lta s (pat (s.2.1 k0)) P d (k + 1)) = lta s (pat (s.2.1 k0)) P s.1 0 := he
      refine gX4_isLetBy_2 ?_
      rw [hC.1]
      simp (disch := omega) only [n_le, n_in, nI_clamp]
      rw [(hC.2 k (by omega)).2.1, b2_1]
      refine ⟨fun z => by omega, fun _ => ⟨by omega, fun z v4 e4 => ?_, fun z => Rt.i (cI_unlikeOf hB hC hk0 (by omega)) ?_⟩⟩
      · rw [e4, n_addc]
        exact ih (k + 1) (by omega) (by rw [← he', if_neg (fun w => z w.1)])
      · rw [fit_and hP2]
        refine ⟨fun z2 v8 e8 => ?_, fun z2 => ⟨?_, (by first | rfl | trivial)⟩⟩
        · rw [e8, n_addc]
          exact ih (k + 1) (by omega) (by rw [← he', if_neg (fun w => z2 w.2)])
        · rw [← he', if_pos ⟨z, z2⟩]
          rfl
  exact key s.1 0 (by omega) rfl
def slw (s : LZ) (P : Nat) (k : Nat) : Bool := !s.2.2 k && lta s (pat (s.2.1 k)) P s.1 0
theorem cI_slipping {P : Nat} (hP2 : P < 2048) (hB : LB s) (hC : LC μ s) : Rt E MX4_slipping [.ref 78, .int (nI P)] μ (some (.int (nI (ct (slw s P) s.1)))) μ := by
  have h12 := hB.1
  refine Sp.go rfl rfl rfl (gX4_slipping_0 ?_)
  have key : ∀ d k, k + d = s.1 → Ex E MX4_slipping (fun v m => v = some (.int (nI (ct (slw s P) s.1))) ∧ m = μ) 4 [(0, .ref 78), (1, .int (nI P)), (2, .int (nI (ct (slw s P) k))), (3, .int (nI k))] [] μ := by
    intro d
    induction d with
    | zero =>
      intro k hk
      have : k = s.1 := by omega
      subst this
      refine gX4_slipping_4 ?_
      rw [hC.1]
      simp (disch := omega) only [n_le]
      exact ⟨fun _ => ⟨(by first | rfl | trivial), (by first | rfl | trivial)⟩, fun z => by omega⟩
    | succ d ih =>
      intro k hk
      have := ih (k + 1) (by omega)
      rw [ct_s] at this
      refine gX4_slipping_4 ?_
      rw [hC.1]
      simp (disch := omega) only [n_le, n_in, nI_clamp]
      rw [(hC.2 k (by omega)).2.1, b2_0, Decidable.not_not]
      refine ⟨fun z => by omega, fun _ => ⟨by omega, fun z v4 e4 => ?_, fun z => Rt.i (cI_isLetBy hP2 hB hC (by omega)) ?_⟩⟩
      · rw [if_neg (by unfold slw; simp [z])] at this
        rw [e4, n_addc]
        exact this
      · rw [b2_0]
        refine ⟨fun z2 v8 e8 => ?_, fun z2 v9 e9 v10 e10 => ?_⟩
        · rw [if_neg (by unfold slw; simp [z2])] at this
          rw [e8, n_addc]
          exact this
        · rw [Decidable.not_not] at z2
          rw [if_pos (by unfold slw; simp [z, z2])] at this
          rw [e9, e10, n_addc, n_addc]
          exact this
  exact key s.1 0 (by omega)
def shn (μ : Mem) (f : PF) : Prop := ∀ p, p < 11 → μ.1 145 p = oI ((f p).map byO)
theorem pat_k {k : Nat} (hB : LB s) (hk : k < s.1) : Pfk (pat (s.2.1 k)) := fun _ _ => pat_lt hB hk
theorem cM_letsBy {P : Nat} {f : PF} (hP2 : P < 2048) (hB : LB s) (hM : LM μ s) (hf : Pfk f) (hs : shn μ f) : Rt E MX11_letsBy [.ref 123, .int (nI P)] μ (some (.int (b2 (lta s f P s.1 0 = true)))) μ := by
  have h12 := hB.1
  refine Sp.go rfl rfl rfl (gX11_letsBy_0 ?_)
  have key : ∀ d k, k + d = s.1 → lta s f P d k = lta s f P s.1 0 → Ex E MX11_letsBy (fun v m => v = some (.int (b2 (lta s f P s.1 0 = true))) ∧ m = μ) 2 [(0, .ref 123), (1, .int (nI P)), (2, .int (nI k))] [] μ := by
    intro d
    induction d with
    | zero =>
      intro k hk he
      refine gX11_letsBy_2 ?_
      rw [hM.1]
      simp (disch := omega) only [n_le]
      refine ⟨fun _ => ⟨?_, (by first | rfl | trivial)⟩, fun z => by omega⟩
      rw [← he]
      rfl
    | succ d ih =>
      intro k hk he
      have he' : (if s.2.2 k = true ∧ fitP f (pat (s.2.1 k)) P then true else lta s f P d (k + 1)) = lta s f P s.1 0 := he
      have inner : ∀ e p (b : Prop) [Decidable b], p + e = 11 → (b ↔ (s.2.2 k = true ∧ ∀ j, j < p → P.testBit j = true → f j = pat (s.2.1 k) j)) → Ex E MX11_letsBy (fun v m => v = some (.int (b2 (lta s f P s.1 0 = true))) ∧ m = μ) 20 [(0, .ref 123), (1, .int (nI P)), (2, .int (nI k)), (3, .int (b2 b)), (4, .int (nI p))] [] μ := by
        have no : ∀ (b : Prop), ¬ b → (s.2.2 k = true ∧ fitP f (pat (s.2.1 k)) P → b) → ∀ v3 : Int32, v3 = nI k + 1 → Ex E MX11_letsBy (fun v m => v = some (.int (b2 (lta s f P s.1 0 = true))) ∧ m = μ) 2 [(0, .ref 123), (1, .int (nI P)), (2, .int v3)] [] μ := by
          intro b nb hb v3 e3
          rw [e3, n_addc]
          exact ih (k + 1) (by omega) (by rw [← he', if_neg (fun w => nb (hb w))])
        intro e
        induction e with
        | zero =>
          intro p b _ hp hb
          refine gX11_letsBy_20 ?_
          simp (disch := omega) only [n_cle]
          rw [b2_0]
          have : p = 11 := by omega
          subst this
          refine ⟨fun _ => ⟨fun z => no b z (fun w => hb.2 ⟨w.1, fun j hj => fitP_iff.1 w.2 j hj⟩), fun z => ⟨?_, (by first | rfl | trivial)⟩⟩, fun z => by omega⟩
          rw [Decidable.not_not] at z
          rw [← he', if_pos ⟨(hb.1 z).1, fitP_iff.2 (hb.1 z).2⟩]
          rfl
        | succ e ihe =>
          intro p b _ hp hb
          refine gX11_letsBy_20 ?_
          simp (disch := omega) only [n_cle, n_in, nI_clamp]
          rw [b2_0, b_bit (by omega) (by omega), n_eq0 (by omega), tb_div]
          have bn : ¬ b → (s.2.2 k = true ∧ fitP f (pat (s.2.1 k)) P → b) := fun _ w => hb.2 ⟨w.1, fun j hj => fitP_iff.1 w.2 j (by omega)⟩
          refine ⟨fun z => by omega, fun _ => ⟨fun z => ⟨fun z => no b z (bn z), fun z2 => absurd z z2⟩, fun z => ⟨fun z2 v8 e8 => ?_, fun z2 => ⟨by omega, Rt.i (cM_listedAt hB hM (by omega) (by omega)) ?_⟩⟩⟩⟩
          · rw [Decidable.not_not] at z
            have hbit : ¬ P.testBit p = true := fun w => by rw [if_pos w] at z2; omega
            rw [e8, n_addc]
            have := ihe (p + 1) True (by omega) ⟨fun _ => ⟨(hb.1 z).1, fun j hj hj2 => if c : j = p then absurd (c ▸ hj2) hbit else (hb.1 z).2 j (by omega) hj2⟩, fun _ => trivial⟩
            exact this
          · rw [Decidable.not_not] at z
            have hbit : P.testBit p = true := by
              cases c : P.testBit p with
              | true => rfl
              | false => rw [c] at z2; exact absurd rfl z2
            rw [hs p (by omega), map_inj (hf p) (pat_k hB (by omega) p)]
            refine ⟨fun z3 v13 e13 => ?_, fun z3 v14 e14 => ?_⟩
            · rw [e13, n_addc]
              exact ihe (p + 1) False (by omega) ⟨fun w => w.elim, fun w => z3 (w.2 p (by omega) hbit)⟩
            · rw [e14, n_addc]
              exact ihe (p + 1) True (by omega) ⟨fun _ => ⟨(hb.1 z).1, fun j hj hj2 => if c : j = p then c ▸ z3 else (hb.1 z).2 j (by omega) hj2⟩, fun _ => trivial⟩
      refine gX11_letsBy_2 ?_
      rw [hM.1]
      simp (disch := omega) only [n_le, n_in, nI_clamp]
      rw [(hM.2 k (by omega)).2.1]
      refine ⟨fun z => by omega, fun _ => ⟨by omega, fun v3 e3 => ?_⟩⟩
      rw [e3]
      exact inner 11 0 (s.2.2 k = true) rfl ⟨fun w => ⟨w, fun j hj => by omega⟩, fun w => w.1⟩
  exact key s.1 0 (by omega) rfl
end LETS2
