section MEASURE
variable {E : EV} {μ ν : Mem} {A : Nat → Nat → Prop} {d : Nat} {L : LD} {S : Nat}
def lnk (A : Nat → Nat → Prop) (a b : Nat) : Nat → Nat → Prop := fun c e => A c e ∨ (c = a ∧ e = b) ∨ (c = b ∧ e = a)
def adj (L : LD) (P : Nat → Prop) : Nat → Nat → Prop := fun c b => ∃ l, l < 2 * L.1 ∧ P (l / 2) ∧ lS L l = c ∧ lE L l = b
def DMs (μ : Mem) (d : Nat) (A : Nat → Nat → Prop) : Prop := ∀ a b, a < 8 → b < 8 → μ.1 (d + 2 + a) b = oI (dst A a b)
theorem CL.frS {T : Nat → Nat → Prop} (h : CL μ L) (hf : Fr T μ ν) (h1 : ∀ k, ¬ T 1 k) (h2 : ∀ k, ¬ T 2 k) : CL ν L :=
  h.fr (hf _ _ (h1 _)).1 (hf _ _ (h1 _)).1 (hf _ _ (h1 _)).1 (fun k _ => (hf _ _ (h2 _)).1)
theorem Dmsk.fr {T : Nat → Nat → Prop} (h : Dmsk μ d A) (hf : Fr T μ ν) (h1 : ∀ k, ¬ T (d + 10) k) : Dmsk ν d A := by
  intro c hc
  obtain ⟨w, w1, w2, w3⟩ := h c hc
  exact ⟨w, w1, by rw [(hf _ _ (h1 _)).1]; exact w2, w3⟩
theorem Dmsk.cg {B : Nat → Nat → Prop} (h : Dmsk μ d A) (hb : ∀ a b, a < 8 → b < 8 → (A a b ↔ B a b)) : Dmsk μ d B := by
  intro c hc
  obtain ⟨w, w1, w2, w3⟩ := h c hc
  exact ⟨w, w1, w2, fun b hb8 => (w3 b hb8).trans (hb c b hc hb8)⟩
theorem cD_link {a b : Nat} (hd : Dok d) (ha : a < 8) (hb : b < 8) (hm : Dmsk μ d A) : Sp E MX0_link [.ref d, .int (nI a), .int (nI b)] μ (fun v ν => v = none ∧ (Dmsk ν d (lnk A a b) ∧ Fr (fun o _ => o = d + 10) μ ν)) := by
  obtain ⟨wa, a1, a2, a3⟩ := hm a ha
  refine Sp.go rfl rfl rfl (gX0_link_0 hd.1 ?_)
  simp (disch := omega) only [n_lt0, n_cle, n_in, nI_clamp]
  refine ⟨fun z => z.elim, fun _ => ⟨fun z => by omega, fun _ => ⟨fun z => z.elim, fun _ => ⟨fun z => by omega, fun _ => ⟨by omega, fun v6 e6 => ⟨by omega, fun v8 e8 => ⟨(by first | rfl | trivial), ?_, ?_⟩⟩⟩⟩⟩⟩⟩
  · have pa : 2 ^ a < 256 := Nat.lt_of_lt_of_le (Nat.pow_lt_pow_right (by decide) ha) (by decide)
    have pb : 2 ^ b < 256 := Nat.lt_of_lt_of_le (Nat.pow_lt_pow_right (by decide) hb) (by decide)
    rw [a2, b_1shl (by omega), b_or (by omega) (by omega)] at e6
    have w6 : wa ||| 2 ^ b < 256 := Nat.or_lt_two_pow (n := 8) a1 pb
    intro c hc
    by_cases cb : c = b
    · by_cases ab : b = a
      · rw [mI_1, if_pos ⟨rfl, ab⟩, e6, b_1shl (by omega), b_or (by omega) (by omega)] at e8
        refine ⟨wa ||| 2 ^ b ||| 2 ^ a, Nat.or_lt_two_pow (n := 8) w6 pa, by rw [mI_1, if_pos ⟨rfl, cb⟩, e8], fun e he => ?_⟩
        have := a3 e he
        rw [Nat.testBit_or, Nat.testBit_or, Nat.testBit_two_pow, Nat.testBit_two_pow, Bool.or_eq_true, Bool.or_eq_true, decide_eq_true_iff, decide_eq_true_iff, this]
        unfold lnk
        subst cb
        subst ab
        constructor
        · rintro ((h | h) | h)
          · exact Or.inl h
          · exact Or.inr (Or.inl ⟨rfl, h.symm⟩)
          · exact Or.inr (Or.inl ⟨rfl, h.symm⟩)
        · rintro (h | h | h)
          · exact Or.inl (Or.inl h)
          · exact Or.inr h.2.symm
          · exact Or.inr h.2.symm
      · obtain ⟨w, b1, b2, b3⟩ := hm b hb
        rw [mI_1, if_neg (fun w => ab w.2), b2, b_1shl (by omega), b_or (by omega) (by omega)] at e8
        refine ⟨w ||| 2 ^ a, Nat.or_lt_two_pow (n := 8) b1 pa, by rw [mI_1, if_pos ⟨rfl, cb⟩, e8], fun e he => ?_⟩
        have := b3 e he
        rw [Nat.testBit_or, Nat.testBit_two_pow, Bool.or_eq_true, decide_eq_true_iff, this]
        unfold lnk
        subst cb
        constructor
        · rintro (h | h)
          · exact Or.inl h
          · exact Or.inr (Or.inr ⟨rfl, h.symm⟩)
        · rintro (h | h | h)
          · exact Or.inl h
          · exact absurd h.1 ab
          · exact Or.inr h.2.symm
    · by_cases ca : c = a
      · refine ⟨wa ||| 2 ^ b, w6, by rw [mI_1, if_neg (fun w => cb w.2), mI_1, if_pos ⟨rfl, ca⟩, e6], fun e he => ?_⟩
        have := a3 e he
        rw [Nat.testBit_or, Nat.testBit_two_pow, Bool.or_eq_true, decide_eq_true_iff, this]
        unfold lnk
        subst ca
        constructor
        · rintro (h | h)
          · exact Or.inl h
          · exact Or.inr (Or.inl ⟨rfl, h.symm⟩)
        · rintro (h | h | h)
          · exact Or.inl h
          · exact Or.inr h.2.symm
          · exact absurd h.1 cb
      · obtain ⟨w, b1, b2, b3⟩ := hm c hc
        refine ⟨w, b1, by rw [mI_1, if_neg (fun w => cb w.2), mI_1, if_neg (fun w => ca w.2), b2], fun e he => ?_⟩
        rw [b3 e he]
        unfold lnk
        exact ⟨fun h => Or.inl h, fun h => h.elim id (fun h => h.elim (fun h => absurd h.1 ca) (fun h => absurd h.1 cb))⟩
  · exact Fr.tr (Fr.I rfl) (Fr.I rfl)
theorem cL_gatesTold (hC : CL μ L) : Rt E MX3_gatesTold [.ref 1] μ (some (.int (nI L.1))) μ := Sp.go rfl rfl rfl (gX3_gatesTold_0 ⟨by rw [hC.2.2.2.1], rfl⟩)
theorem cL_letters (hC : CL μ L) : Rt E MX3_letters [.ref 1] μ (some (.int (nI (2 * L.1)))) μ := Sp.go rfl rfl rfl (gX3_letters_0 ⟨by rw [hC.2.2.2.1, n_cmul], rfl⟩)
theorem lE_0 {k : Nat} : lE L (2 * k) = lS L (2 * k + 1) := by unfold lE bk; rw [if_pos (by omega)]
theorem lE_1 {k : Nat} : lE L (2 * k + 1) = lS L (2 * k) := by
  unfold lE
  congr 1
  unfold bk
  rw [if_neg (by omega)]
  omega
theorem cD_layOut {G : Nat} {P : Nat → Prop} (hd : Dok d) (h12 : 12 ≤ d) (hG : G < 512) (hP : ∀ g, g < L.1 → (G.testBit g = true ↔ P g)) (hC : CL μ L) : Sp E MX0_layOut [.ref d, .ref 1, .int (nI G)] μ (fun v ν => v = none ∧ (Dmsk ν d (adj L P) ∧ Fr (fun o _ => o = d + 10) μ ν)) := by
  have hg := hC.1
  refine Sp.go rfl rfl rfl (gX0_layOut_0 hd.1 (Rt.v (cJ_fill hd.2.1 hd.2.2.1 (by omega)) ?_))
  have key : ∀ n k m, k + n = L.1 → Fr (fun o _ => o = d + 10) μ m → Dmsk m d (fun c b => ∃ l, l < 2 * k ∧ P (l / 2) ∧ lS L l = c ∧ lE L l = b) → Ex E MX0_layOut (fun v ν => v = none ∧ (Dmsk ν d (adj L P) ∧ Fr (fun o _ => o = d + 10) μ ν)) 10 [(0, .ref d), (1, .ref 1), (2, .int (nI G)), (3, .int (nI k))] [] m := by
    intro n
    induction n with
    | zero =>
      intro k m hk hf hm
      have hC' : CL m L := hC.frS hf (fun _ => by omega) (fun _ => by omega)
      refine gX0_layOut_10 hd.1 (Rt.i (cL_gatesTold hC') ?_)
      simp (disch := omega) only [n_le]
      refine ⟨fun _ => ⟨(by first | rfl | trivial), ?_, hf⟩, fun z => by omega⟩
      rw [show k = L.1 by omega] at hm
      exact hm
    | succ n ih =>
      intro k m hk hf hm
      have hC' : CL m L := hC.frS hf (fun _ => by omega) (fun _ => by omega)
      refine gX0_layOut_10 hd.1 (Rt.i (cL_gatesTold hC') ?_)
      rw [b_bit (by omega) (by omega), tb_div, n_cmul]
      simp (disch := omega) only [n_le]
      have bit : (nI (if G.testBit k = true then 1 else 0) = 1) ↔ P k := by
        rw [← hP k (by omega)]
        cases G.testBit k <;> simp <;> decide
      rw [bit]
      refine ⟨fun z => by omega, fun _ => ⟨fun z v5 e5 => ?_, fun z => Rt.i (cL_from hC' (by omega)) (Rt.i (cL_to hC' (by omega)) (Sp.v (cD_link hd (lS_lt hC' (by omega)).1 (lE_lt hC' (by omega)) hm) (fun m10 h10 v11 e11 => ?_)))⟩⟩
      · rw [e5, n_addc]
        refine ih (k + 1) m (by omega) hf (hm.cg (fun a b _ _ => ?_))
        constructor
        · rintro ⟨l, l1, l2⟩
          exact ⟨l, by omega, l2⟩
        · rintro ⟨l, l1, l2, l3⟩
          by_cases c : l / 2 = k
          · exact absurd (c ▸ l2) z
          · exact ⟨l, by omega, l2, l3⟩
      · rw [e11, n_addc]
        refine ih (k + 1) m10 (by omega) (Fr.tr hf h10.2) (h10.1.cg (fun a b _ _ => ?_))
        unfold lnk
        constructor
        · rintro (⟨l, l1, l2⟩ | ⟨l1, l2⟩ | ⟨l1, l2⟩)
          · exact ⟨l, by omega, l2⟩
          · exact ⟨2 * k, by omega, by rw [show 2 * k / 2 = k by omega]; exact z, l1.symm, l2.symm⟩
          · exact ⟨2 * k + 1, by omega, by rw [show (2 * k + 1) / 2 = k by omega]; exact z, by rw [l1, lE_0], by rw [lE_1, l2]⟩
        · rintro ⟨l, l1, l2, l3, l4⟩
          by_cases c : l = 2 * k
          · subst c
            exact Or.inr (Or.inl ⟨l3.symm, l4.symm⟩)
          · by_cases c2 : l = 2 * k + 1
            · subst c2
              exact Or.inr (Or.inr ⟨by rw [lE_0, l3], by rw [← l4, lE_1]⟩)
            · exact Or.inl ⟨l, by omega, l2, l3, l4⟩
  refine key L.1 0 _ (by omega) (Fr.FI (fun _ _ _ => rfl)) (fun c hc => ⟨0, by omega, ?_, fun b hb => ?_⟩)
  · rw [mFI_1, if_pos ⟨rfl, by omega, by omega⟩]
    rfl
  · rw [Nat.zero_testBit]
    exact ⟨fun z => (by cases z), fun ⟨l, l1, _⟩ => by omega⟩
def SDd (d : Nat) (o _k : Nat) : Prop := d + 2 ≤ o ∧ o ≤ d + 11
theorem cD_all (hd : Dok d) {M : MT} {pc : Nat} {ls : Nat → List (Nat × Value)} {m0 : Mem} (hm : Dmsk m0 d A) (hf0 : Fr (SDd d) μ m0) {Q : Po} (step : ∀ k m, k < 8 → Sp E MX0_spread [.ref d, .int (nI k)] m (fun v m2 => v = none ∧ Ex E M Q pc (ls (k + 1)) [] m2) → Ex E M Q pc (ls k) [] m) (fin : ∀ m, DMs m d A → Fr (SDd d) μ m → Ex E M Q pc (ls 8) [] m) : Ex E M Q pc (ls 0) [] m0 := by
  have key : ∀ n k m, k + n = 8 → Fr (SDd d) μ m → Dmsk m d A → (∀ a b, a < k → b < 8 → m.1 (d + 2 + a) b = oI (dst A a b)) → Ex E M Q pc (ls k) [] m := by
    intro n
    induction n with
    | zero =>
      intro k m hk hf hm hr
      have : k = 8 := by omega
      subst this
      exact fin m hr hf
    | succ n ih =>
      intro k m hk hf hm hr
      refine step k m (by omega) (Sp.v (cD_spread hd (by omega) hm) (fun m2 h2 => ?_))
      refine ih (k + 1) m2 (by omega) (Fr.tr hf (h2.2.up (fun o _ w => by unfold SDd; omega))) (hm.fr h2.2 (fun _ => by omega)) (fun a b ha hb => ?_)
      by_cases c : a = k
      · rw [c]; exact h2.1 b hb
      · rw [(h2.2 _ _ (by omega)).1]; exact hr a b (by omega) hb
  exact key 8 0 m0 rfl hf0 hm (fun a b ha => by omega)
theorem cD_measure {G : Nat} {P : Nat → Prop} (hd : Dok d) (h12 : 12 ≤ d) (hG : G < 512) (hP : ∀ g, g < L.1 → (G.testBit g = true ↔ P g)) (hC : CL μ L) : Sp E MX0_measure [.ref d, .ref 1, .int (nI G)] μ (fun v ν => v = none ∧ (DMs ν d (adj L P) ∧ Fr (SDd d) μ ν)) := by
  refine Sp.go rfl rfl rfl (gX0_measure_0 hd.1 (Sp.v (cD_layOut hd h12 hG hP hC) (fun m1 h1 => ?_)))
  refine cD_all (μ := μ) (ls := fun k => [(0, .ref d), (1, .ref 1), (2, .int (nI G)), (3, .int (nI k))]) hd h1.1 (h1.2.up (fun o _ w => by unfold SDd; omega)) (fun k m hk hs => ?_) (fun m h1 h2 => ?_)
  · refine gX0_measure_8 hd.1 ?_
    simp (disch := omega) only [n_cle]
    exact ⟨fun z => by omega, fun _ => Sp.v hs (fun m2 h2 v3 e3 => by rw [e3, n_addc]; exact h2)⟩
  · exact gX0_measure_8 hd.1 ⟨fun _ => ⟨rfl, h1, h2⟩, fun z => absurd (by decide) z⟩
theorem cD_measureLinked {G a b : Nat} {P : Nat → Prop} (hd : Dok d) (h12 : 12 ≤ d) (hG : G < 512) (hP : ∀ g, g < L.1 → (G.testBit g = true ↔ P g)) (hC : CL μ L) (ha : a < 8) (hb : b < 8) : Sp E MX0_measureLinked [.ref d, .ref 1, .int (nI G), .int (nI a), .int (nI b)] μ (fun v ν => v = none ∧ (DMs ν d (lnk (adj L P) a b) ∧ Fr (SDd d) μ ν)) := by
  refine Sp.go rfl rfl rfl (gX0_measureLinked_0 hd.1 (Sp.v (cD_layOut hd h12 hG hP hC) (fun m1 h1 => Sp.v (cD_link hd ha hb h1.1) (fun m2 h2 => ?_))))
  refine cD_all (μ := μ) (ls := fun k => [(0, .ref d), (1, .ref 1), (2, .int (nI G)), (3, .int (nI a)), (4, .int (nI b)), (5, .int (nI k))]) hd h2.1 (Fr.tr (h1.2.up (fun o _ w => by unfold SDd; omega)) (h2.2.up (fun o _ w => by unfold SDd; omega))) (fun k m hk hs => ?_) (fun m h1 h2 => ?_)
  · refine gX0_measureLinked_16 hd.1 ?_
    simp (disch := omega) only [n_cle]
    exact ⟨fun z => by omega, fun _ => Sp.v hs (fun m2 h2 v3 e3 => by rw [e3, n_addc]; exact h2)⟩
  · exact gX0_measureLinked_16 hd.1 ⟨fun _ => ⟨rfl, h1, h2⟩, fun z => absurd (by decide) z⟩
theorem cD_measureFrom {G s : Nat} {P : Nat → Prop} (hd : Dok d) (h12 : 12 ≤ d) (hG : G < 512) (hP : ∀ g, g < L.1 → (G.testBit g = true ↔ P g)) (hC : CL μ L) (hs : s < 8) : Sp E MX0_measureFrom [.ref d, .ref 1, .int (nI G), .int (nI s)] μ (fun v ν => v = none ∧ ((∀ b, b < 8 → ν.1 (d + 2 + s) b = oI (dst (adj L P) s b)) ∧ Fr (SDd d) μ ν)) := by
  refine Sp.go rfl rfl rfl (gX0_measureFrom_0 hd.1 (Sp.v (cD_layOut hd h12 hG hP hC) (fun m1 h1 => Rt.i (cX_isTown _) ⟨fun z => ?_, fun _ => Sp.v (cD_spread hd hs h1.1) (fun m5 h5 => ⟨rfl, h5.1, Fr.tr (h1.2.up (fun o _ w => by unfold SDd; omega)) (h5.2.up (fun o _ w => by unfold SDd; omega))⟩)⟩)))
  rw [b2_0, Rg.nI (by omega)] at z
  omega
theorem cD_between {a b : Nat} (hd : Dok d) (ha : a < 8) (hb : b < 8) : Rt E MX0_between [.ref d, .int (nI a), .int (nI b)] μ (some (.int (μ.1 (d + 2 + a) b))) μ := by
  refine Sp.go rfl rfl rfl (gX0_between_0 hd.1 (Rt.i (cX_isTown _) ⟨fun z => ?_, fun _ => Rt.i (cX_isTown _) ⟨fun z => ?_, fun _ => ?_⟩⟩))
  · rw [b2_0, Rg.nI (by omega)] at z
    omega
  · rw [b2_0, Rg.nI (by omega)] at z
    omega
  · simp (disch := omega) only [n_in, nI_clamp]
    exact ⟨by omega, by omega, (by first | rfl | trivial), (by first | rfl | trivial)⟩
end MEASURE
