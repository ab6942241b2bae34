/-! lanes: the gates that nobody watches; how many ways of a length lead by them -/
def sJ : Nat → (Nat → Int64) → Int64
  | 0, _ => 0
  | n + 1, f => sJ n f + f n
theorem sJ_congr {f g : Nat → Int64} : ∀ n, (∀ i, i < n → f i = g i) → sJ n f = sJ n g
  | 0, _ => rfl
  | n + 1, h => by
    show sJ n f + f n = sJ n g + g n
    rw [sJ_congr n (fun i hi => h i (by omega)), h n (by omega)]
theorem sJ_zero {f : Nat → Int64} (n : Nat) (h : ∀ i, i < n → f i = 0) : sJ n f = 0 := by
  induction n with
  | zero => rfl
  | succ n ih =>
    show sJ n f + f n = 0
    rw [ih (fun i hi => h i (by omega)), h n (by omega)]
    rfl
def lU (L : LD) (S l : Nat) : Bool := !lW L l && !S.testBit (l / 2)
def pU (L : LD) (S : Nat) : Nat → Prop := fun g => L.2.2.2.1 g = false ∧ S.testBit g = false
theorem lU_p {L : LD} {S l : Nat} : lU L S l = true ↔ pU L S (l / 2) := by
  unfold lU pU lW
  simp
abbrev lA (L : LD) (S : Nat) : Nat → Nat → Prop := adj L (pU L S)
def Lok (L : LD) : Prop := L.1 ≤ 9 ∧ ∀ l, l < 2 * L.1 → lS L l < 8 ∧ lE L l < 8
theorem ML.ok {μ : Mem} {L : LD} (h : ML μ L) : Lok L := ⟨h.1, fun _ hl => ⟨lS_ltM h hl, lE_ltM h hl⟩⟩
theorem CL.ok {μ : Mem} {L : LD} (h : CL μ L) : Lok L := ⟨h.1, fun _ hl => ⟨(lS_lt h hl).1, lE_lt h hl⟩⟩
def wN (L : LD) (S : Nat) : Nat → Nat → Nat → Int64
  | 0, a, b => if a = b then 1 else 0
  | n + 1, a, b => sJ (2 * L.1) (fun l => if lU L S l = true ∧ lE L l = b then wN L S n a (lS L l) else 0)
theorem wN_zero {L : LD} {S a : Nat} (hL : Lok L) : ∀ n b, ¬ dWk (lA L S) n a b → wN L S n a b = 0
  | 0, b, h => if_neg h
  | n + 1, b, h => by
    refine sJ_zero _ (fun l hl => ?_)
    by_cases c : lU L S l = true ∧ lE L l = b
    · rw [if_pos c]
      exact wN_zero hL n _ (fun w => h ⟨lS L l, (hL.2 l hl).1, w, l, hl, lU_p.1 c.1, rfl, c.2⟩)
    · rw [if_neg c]
section UNSEEN
variable {E : EV} {μ ν : Mem} {L : LD} {S : Nat}
theorem cM_isUnseen (hC : ML μ L) (hS : S < 512) (h13 : μ.1 123 13 = nI S) {l : Nat} (hl : l < 2 * L.1) : Rt E MX11_isUnseen [.ref 123, .int (nI l)] μ (some (.int (b2 (lU L S l = true)))) μ := by
  have hg := hC.1
  obtain ⟨q1, q2, q3, q4, q5⟩ := hC.2.2.2.2.2 (l / 2) (by omega)
  refine Sp.go rfl rfl rfl (gX11_isUnseen_0 ?_)
  simp (disch := omega) only [n_divc, n_in, nI_clamp]
  rw [q5]
  refine ⟨by omega, fun z => ⟨?_, (by first | rfl | trivial)⟩, fun z => Rt.i (cM_isShut hS h13 (by omega)) ⟨fun z2 => ⟨?_, (by first | rfl | trivial)⟩, fun z2 => ⟨?_, (by first | rfl | trivial)⟩⟩⟩
  · cases c : L.2.2.2.1 (l / 2) with
    | true => rw [b2_f (by unfold lU lW; simp [c])]
    | false => rw [c] at z; exact absurd rfl z
  · rw [b2_0, Decidable.not_not] at z2
    rw [b2_f (by unfold lU; simp [z2])]
  · rw [b2_0] at z2
    have c : L.2.2.2.1 (l / 2) = false := by
      cases c : L.2.2.2.1 (l / 2) with
      | true => rw [c] at z; exact absurd z (by decide)
      | false => rfl
    rw [b2_t (by unfold lU lW; simp [c]; simpa using z2)]
def S156 (o _k : Nat) : Prop := o = 135 ∨ o = 136
theorem S156_SQ {o k : Nat} (h : S156 o k) : SQ o k := by unfold S156 at h; unfold SQ; omega
noncomputable def uW (L : LD) (S a b : Nat) : Int64 := match dst (lA L S) a b with
  | none => 0
  | some n => wN L S n a b
def UNr (m : Mem) (L : LD) (S a : Nat) : Prop := ∀ b, b < 8 → m.1 135 (8 * a + b) = nI ((dst (lA L S) a b).getD 1000) ∧ m.2 136 (8 * a + b) = uW L S a b
def UN (m : Mem) (L : LD) (S : Nat) : Prop := ∀ a, a < 8 → UNr m L S a
def uI68 (m : Mem) (L : LD) (S a f : Nat) : Prop := ∀ b, b < 8 → (∀ n, n < f → dst (lA L S) a b = some n → m.1 135 (8 * a + b) = nI n ∧ m.2 136 (8 * a + b) = wN L S n a b) ∧ ((∀ n, n < f → ¬ dst (lA L S) a b = some n) → m.1 135 (8 * a + b) = nI 1000 ∧ m.2 136 (8 * a + b) = 0)
def uEx (L : LD) (S a f b l : Nat) : Prop := ∃ k, k < l ∧ lU L S k = true ∧ lE L k = b ∧ dst (lA L S) a (lS L k) = some f
def uI76 (m : Mem) (L : LD) (S a f l : Nat) : Prop := ∀ b, b < 8 → (∀ n, n < f + 1 → dst (lA L S) a b = some n → m.1 135 (8 * a + b) = nI n ∧ m.2 136 (8 * a + b) = wN L S n a b) ∧
  (dst (lA L S) a b = some (f + 1) → (uEx L S a f b l → m.1 135 (8 * a + b) = nI (f + 1)) ∧ (¬ uEx L S a f b l → m.1 135 (8 * a + b) = nI 1000) ∧ m.2 136 (8 * a + b) = sJ l (fun l => if lU L S l = true ∧ lE L l = b then wN L S f a (lS L l) else 0)) ∧
  ((∀ n, n < f + 2 → ¬ dst (lA L S) a b = some n) → m.1 135 (8 * a + b) = nI 1000 ∧ m.2 136 (8 * a + b) = 0)
theorem uI_in {m : Mem} {a f : Nat} (h : uI68 m L S a (f + 1)) : uI76 m L S a f 0 := by
  intro b hb
  obtain ⟨h1, h2⟩ := h b hb
  refine ⟨h1, fun e => ?_, fun e => h2 (fun n hn => e n (by omega))⟩
  obtain ⟨q1, q2⟩ := h2 (fun n hn w => by rw [e] at w; cases w; omega)
  exact ⟨fun ⟨k, k1, _⟩ => by omega, fun _ => q1, q2⟩
theorem uI_out {m : Mem} {a f : Nat} (h : uI76 m L S a f (2 * L.1)) : uI68 m L S a (f + 2) := by
  intro b hb
  obtain ⟨h1, h2, h3⟩ := h b hb
  refine ⟨fun n hn e => ?_, h3⟩
  by_cases c : n < f + 1
  · exact h1 n c e
  · have : n = f + 1 := by omega
    subst this
    obtain ⟨q1, q2, q3⟩ := h2 e
    refine ⟨q1 ?_, q3⟩
    obtain ⟨c, c1, c2, l, l1, l2, l3, l4⟩ := dst_pre f b e
    exact ⟨l, l1, lU_p.2 l2, l4, by rw [l3]; exact c2⟩
theorem uI_skip {m : Mem} {a f l : Nat} (h : uI76 m L S a f l) (hs : ∀ b, b < 8 → dst (lA L S) a b = some (f + 1) → (uEx L S a f b (l + 1) → uEx L S a f b l) ∧ (if lU L S l = true ∧ lE L l = b then wN L S f a (lS L l) else 0) = 0) : uI76 m L S a f (l + 1) := by
  intro b hb
  obtain ⟨h1, h2, h3⟩ := h b hb
  refine ⟨h1, fun e => ?_, h3⟩
  obtain ⟨q1, q2, q3⟩ := h2 e
  obtain ⟨s1, s2⟩ := hs b hb e
  refine ⟨fun w => q1 (s1 w), fun w => q2 (fun ⟨k, k1, k2⟩ => w ⟨k, by omega, k2⟩), ?_⟩
  rw [q3]
  show _ = sJ l _ + (if lU L S l = true ∧ lE L l = b then wN L S f a (lS L l) else 0)
  rw [s2, Int64.add_zero]
theorem uEx_s {a f b l : Nat} (h : uEx L S a f b (l + 1)) (hn : ¬ (lU L S l = true ∧ lE L l = b ∧ dst (lA L S) a (lS L l) = some f)) : uEx L S a f b l := by
  obtain ⟨k, k1, k2⟩ := h
  by_cases c : k = l
  · exact absurd (c ▸ k2) hn
  · exact ⟨k, by omega, k2⟩
theorem uI_add {m : Mem} {a f l : Nat} (hL : Lok L) (ha : a < 8) (hl : l < 2 * L.1) (h : uI76 m L S a f l) (hu : lU L S l = true) (hc : dst (lA L S) a (lS L l) = some f) (hd : dst (lA L S) a (lE L l) = some (f + 1)) : uI76 (mJ (mI m 135 (8 * a + lE L l) (nI (f + 1))) 136 (8 * a + lE L l) (m.2 136 (8 * a + lE L l) + wN L S f a (lS L l))) L S a f (l + 1) := by
  intro b hb
  obtain ⟨h1, h2, h3⟩ := h b hb
  have e8 := (hL.2 l hl).2
  by_cases e : b = lE L l
  · subst e
    refine ⟨fun n hn e => ?_, fun _ => ?_, fun w => absurd hd (w (f + 1) (by omega))⟩
    · rw [hd] at e; cases e; omega
    · obtain ⟨q1, q2, q3⟩ := h2 hd
      refine ⟨fun _ => ?_, fun w => absurd ⟨l, by omega, hu, rfl, hc⟩ w, ?_⟩
      · rw [mJ_1, rde]
      · rw [mJ_2, if_pos ⟨rfl, rfl⟩, q3]
        show _ = sJ l _ + (if lU L S l = true ∧ lE L l = lE L l then wN L S f a (lS L l) else 0)
        rw [if_pos ⟨hu, rfl⟩]
  · have r1 : (mJ (mI m 135 (8 * a + lE L l) (nI (f + 1))) 136 (8 * a + lE L l) (m.2 136 (8 * a + lE L l) + wN L S f a (lS L l))).1 135 (8 * a + b) = m.1 135 (8 * a + b) := by
      rw [mJ_1, mI_1, if_neg (by omega)]
    have r2 : (mJ (mI m 135 (8 * a + lE L l) (nI (f + 1))) 136 (8 * a + lE L l) (m.2 136 (8 * a + lE L l) + wN L S f a (lS L l))).2 136 (8 * a + b) = m.2 136 (8 * a + b) := by
      rw [mJ_2, if_neg (by omega)]
      rfl
    rw [r1, r2]
    refine ⟨h1, fun w => ?_, h3⟩
    obtain ⟨q1, q2, q3⟩ := h2 w
    refine ⟨fun w => q1 (uEx_s w (fun w => e w.2.1.symm)), fun w => q2 (fun ⟨k, k1, k2⟩ => w ⟨k, by omega, k2⟩), ?_⟩
    rw [q3]
    show _ = sJ l _ + (if lU L S l = true ∧ lE L l = b then wN L S f a (lS L l) else 0)
    rw [if_neg (fun w => e w.2.symm), Int64.add_zero]
def uPre (m : Mem) (L : LD) (S a : Nat) : Prop := ∀ i, i < a → UNr m L S i
theorem cM_findUnseen (hC : ML μ L) (hS : S < 512) (h13 : μ.1 123 13 = nI S) : Sp E MX11_findUnseen [.ref 123] μ (fun v ν => v = none ∧ (UN ν L S ∧ Fr S156 μ ν)) := by
  have hL := hC.ok
  have hg := hC.1
  have mk : ∀ m, Fr S156 μ m → ML m L ∧ m.1 123 13 = nI S := fun m hf => ⟨hC.frS hf (by unfold S156; omega) (by unfold S156; omega) (fun k => by unfold S156; omega), by rw [(hf _ _ (by unfold S156; omega)).1]; exact h13⟩
  refine Sp.go rfl rfl rfl (gX11_findUnseen_0 ?_)
  have ka : ∀ n a m, a + n = 8 → uPre m L S a → Fr S156 μ m → Ex E MX11_findUnseen (fun v ν => v = none ∧ (UN ν L S ∧ Fr S156 μ ν)) 2 [(0, .ref 123), (1, .int (nI a))] [] m := by
    intro n
    induction n with
    | zero =>
      intro a m ha hp hf
      have : a = 8 := by omega
      subst this
      exact gX11_findUnseen_2 ⟨fun _ => ⟨rfl, hp, hf⟩, fun z => absurd (by decide) z⟩
    | succ n ih =>
      intro a m ha hp hf
      have a8 : a < 8 := by omega
      have kf : ∀ n f m, f + n = 8 → 1 ≤ f → uPre m L S a → uI68 m L S a f → Fr S156 μ m → Ex E MX11_findUnseen (fun v ν => v = none ∧ (UN ν L S ∧ Fr S156 μ ν)) 68 [(0, .ref 123), (1, .int (nI a)), (2, .int (nI f))] [] m := by
        intro n
        induction n with
        | zero =>
          intro f m hf8 h1 hp hu hf
          have : f = 8 := by omega
          subst this
          refine gX11_findUnseen_68 ⟨fun _ v2 e2 => ?_, fun z => absurd (by decide) z⟩
          rw [e2, n_addc]
          refine ih (a + 1) m (by omega) (fun i hi => ?_) hf
          by_cases c : i = a
          · subst c
            intro b hb
            obtain ⟨q1, q2⟩ := hu b hb
            unfold uW
            cases e : dst (lA L S) i b with
            | none => exact q2 (fun n _ w => by rw [e] at w; cases w)
            | some n => exact q1 n ((dst_8 a8 e).2 hb) e
          · exact hp i (by omega)
        | succ n ihf =>
          intro f m hf8 h1 hp hu hf
          obtain ⟨g, rfl⟩ : ∃ g, f = g + 1 := ⟨f - 1, by omega⟩
          have kl : ∀ n l m, l + n = 2 * L.1 → uPre m L S a → uI76 m L S a g l → Fr S156 μ m → Ex E MX11_findUnseen (fun v ν => v = none ∧ (UN ν L S ∧ Fr S156 μ ν)) 76 [(0, .ref 123), (1, .int (nI a)), (2, .int (nI (g + 1))), (3, .int (nI l))] [] m := by
            intro n
            induction n with
            | zero =>
              intro l m hl hp hu hf
              have : l = 2 * L.1 := by omega
              subst this
              obtain ⟨hC', h13'⟩ := mk m hf
              refine gX11_findUnseen_76 ?_
              rw [hC'.2.2.2.1, n_cmul]
              simp (disch := omega) only [n_le]
              refine ⟨fun _ v2 e2 => ?_, fun z => absurd (Nat.le_refl _) z⟩
              rw [e2, n_addc]
              exact ihf (g + 2) m (by omega) (by omega) hp (uI_out hu) hf
            | succ n ihl =>
              intro l m hl hp hu hf
              have l2 : l < 2 * L.1 := by omega
              obtain ⟨hC', h13'⟩ := mk m hf
              obtain ⟨s8, e8⟩ := hL.2 l l2
              have skip : (∀ b, b < 8 → dst (lA L S) a b = some (g + 1) → (uEx L S a g b (l + 1) → uEx L S a g b l) ∧ (if lU L S l = true ∧ lE L l = b then wN L S g a (lS L l) else 0) = 0) → ∀ v : Int32, v = nI l + 1 → Ex E MX11_findUnseen (fun v ν => v = none ∧ (UN ν L S ∧ Fr S156 μ ν)) 76 [(0, .ref 123), (1, .int (nI a)), (2, .int (nI (g + 1))), (3, .int v)] [] m := by
                intro hs v ev
                rw [ev, n_addc]
                exact ihl (l + 1) m (by omega) hp (uI_skip hu hs) hf
              refine gX11_findUnseen_76 ?_
              rw [hC'.2.2.2.1, n_cmul, n_le (by omega) (by omega)]
              refine ⟨fun z => by omega, fun _ => Rt.i (cM_isUnseen hC' hS h13' l2) ?_⟩
              rw [b2_0]
              refine ⟨fun z => Rt.i (cM_end hC' l2) (fun v8 e8 => skip (fun b hb e => ⟨fun w => uEx_s w (fun w => z w.1), if_neg (fun w => z w.1)⟩)), fun z => Rt.i (cM_start hC' l2) ?_⟩
              rw [Decidable.not_not] at z
              simp (disch := omega) only [n_cmul, nI_add, n_in, nI_clamp, show nI (g + 1) - 1 = nI g from pk_sub (a := g + 1) (b := 1) (by omega)]
              obtain ⟨u1, u2, u3⟩ := hu (lS L l) s8
              have fst : m.1 135 (8 * a + lS L l) = nI g ↔ dst (lA L S) a (lS L l) = some g := by
                constructor
                · intro w
                  cases e : dst (lA L S) a (lS L l) with
                  | none =>
                    rw [(u3 (fun n _ w => by rw [e] at w; cases w)).1, n_eq (by omega) (by omega)] at w
                    omega
                  | some k =>
                    by_cases c1 : k < g + 1
                    · rw [(u1 k c1 e).1, n_eq (by omega) (by omega)] at w
                      rw [w]
                    · by_cases c2 : k = g + 1
                      · rw [c2] at e
                        by_cases x : uEx L S a g (lS L l) l
                        · rw [(u2 e).1 x, n_eq (by omega) (by omega)] at w; omega
                        · rw [(u2 e).2.1 x, n_eq (by omega) (by omega)] at w; omega
                      · rw [(u3 (fun n hn w => by rw [e] at w; cases w; omega)).1, n_eq (by omega) (by omega)] at w
                        omega
                · intro e
                  exact (u1 g (by omega) e).1
              rw [fst]
              refine ⟨by omega, fun z2 => Rt.i (cM_end hC' l2) (fun v8 _ => skip (fun b hb e => ⟨fun w => uEx_s w (fun w => z2 w.2.2), ?_⟩)), fun z2 => Rt.i (cM_end hC' l2) (fun v20 e20 => ?_)⟩
              · by_cases c : lU L S l = true ∧ lE L l = b
                · rw [if_pos c]
                  refine wN_zero hL g _ (fun w => ?_)
                  obtain ⟨k, k1, k2⟩ := dst_le w
                  obtain ⟨j, j1, j2⟩ := dst_step (A := lA L S) (c := b) s8 k2 ⟨l, l2, lU_p.1 c.1, rfl, c.2⟩
                  rw [e] at j2
                  cases j2
                  have : k = g := by omega
                  rw [this] at k2
                  exact z2 k2
                · rw [if_neg c]
              · simp only [n_cmul, nI_add] at e20
                subst e20
                simp (disch := omega) only [n_in, nI_clamp]
                obtain ⟨w1, w2, w3⟩ := hu (lE L l) e8
                obtain ⟨j, j1, j2⟩ := dst_step (A := lA L S) (c := lE L l) s8 z2 ⟨l, l2, lU_p.1 z, rfl, rfl⟩
                refine ⟨by omega, fun z3 => skip (fun b hb e => ?_), fun z3 => ?_⟩
                · have hne : ¬ lE L l = b := by
                    intro c
                    subst c
                    by_cases x : uEx L S a g (lE L l) l
                    · rw [(w2 e).1 x, n_lt (by omega) (by omega)] at z3; omega
                    · rw [(w2 e).2.1 x, n_lt (by omega) (by omega)] at z3; omega
                  exact ⟨fun w => uEx_s w (fun w => hne w.2.1), if_neg (fun w => hne w.2)⟩
                · have hd : dst (lA L S) a (lE L l) = some (g + 1) := by
                    by_cases c : j < g + 1
                    · rw [(w1 j c j2).1, n_lt (by omega) (by omega)] at z3
                      omega
                    · rw [j2]
                      congr 1
                      omega
                  have fM : Fr S156 μ (mI m 135 (8 * a + lE L l) (nI (g + 1))) := Fr.tr hf (Fr.I (Or.inl rfl))
                  refine Rt.i (cM_start (mk _ fM).1 l2) ?_
                  simp (disch := omega) only [n_cmul, nI_add, n_in, nI_clamp]
                  refine ⟨by omega, fun v27 e27 v28 e28 => ?_⟩
                  rw [e28, n_addc]
                  rw [mI_2, (u1 g (by omega) z2).2] at e27
                  rw [e27]
                  refine ihl (l + 1) _ (by omega) (fun i hi b hb => ?_) (uI_add hL a8 l2 hu z z2 hd) (Fr.tr fM (Fr.J (Or.inr rfl)))
                  have := hp i hi b hb
                  rw [mJ_1, mI_1, if_neg (by omega), mJ_2, if_neg (by omega), mI_2]
                  exact this
          refine gX11_findUnseen_68 ?_
          simp (disch := omega) only [n_cle]
          exact ⟨fun z => by omega, fun _ => kl (2 * L.1) 0 m (by omega) hp (uI_in hu) hf⟩
      have kb : ∀ n b m, b + n = 8 → uPre m L S a → (∀ i, i < b → m.1 135 (8 * a + i) = nI (if a = i then 0 else 1000) ∧ m.2 136 (8 * a + i) = if a = i then 1 else 0) → Fr S156 μ m → Ex E MX11_findUnseen (fun v ν => v = none ∧ (UN ν L S ∧ Fr S156 μ ν)) 10 [(0, .ref 123), (1, .int (nI a)), (2, .int (nI b))] [] m := by
        intro n
        induction n with
        | zero =>
          intro b m hb hp hi hf
          have : b = 8 := by omega
          subst this
          refine gX11_findUnseen_10 ⟨fun _ => kf 7 1 m (by omega) (by omega) hp (fun b hb => ?_) hf, fun z => absurd (by decide) z⟩
          obtain ⟨q1, q2⟩ := hi b hb
          refine ⟨fun n hn e => ?_, fun e => ?_⟩
          · have : n = 0 := by omega
            subst this
            have := dst_zero e
            rw [q1, q2, if_pos this]
            exact ⟨rfl, rfl⟩
          · have : ¬ a = b := fun c => e 0 (by omega) (by rw [c]; exact dst_refl)
            rw [q1, q2, if_neg this, if_neg this]
            exact ⟨rfl, rfl⟩
        | succ n ihb =>
          intro b m hb hp hi hf
          have nx : ∀ (x : Int32) (y : Int64), x = nI (if a = b then 0 else 1000) → y = (if a = b then 1 else 0) → ∀ v : Int32, v = nI b + 1 → Ex E MX11_findUnseen (fun v ν => v = none ∧ (UN ν L S ∧ Fr S156 μ ν)) 10 [(0, .ref 123), (1, .int (nI a)), (2, .int v)] [] (mJ (mI m 135 (8 * a + b) x) 136 (8 * a + b) y) := by
            intro x y hx hy v ev
            rw [ev, n_addc]
            refine ihb (b + 1) _ (by omega) (fun i hi b' hb' => ?_) (fun i hi' => ?_) (Fr.tr hf (Fr.tr (Fr.I (Or.inl rfl)) (Fr.J (Or.inr rfl))))
            · have := hp i hi b' hb'
              rw [mJ_1, mI_1, if_neg (by omega), mJ_2, if_neg (by omega), mI_2]
              exact this
            · by_cases c : i = b
              · subst c
                have r1 : (mJ (mI m 135 (8 * a + i) x) 136 (8 * a + i) y).1 135 (8 * a + i) = x := by rw [mJ_1, rde]
                have r2 : (mJ (mI m 135 (8 * a + i) x) 136 (8 * a + i) y).2 136 (8 * a + i) = y := by rw [mJ_2, if_pos ⟨rfl, rfl⟩]
                rw [r1, r2]
                exact ⟨hx, hy⟩
              · have r1 : (mJ (mI m 135 (8 * a + b) x) 136 (8 * a + b) y).1 135 (8 * a + i) = m.1 135 (8 * a + i) := by rw [mJ_1, mI_1, if_neg (by omega)]
                have r2 : (mJ (mI m 135 (8 * a + b) x) 136 (8 * a + b) y).2 136 (8 * a + i) = m.2 136 (8 * a + i) := by rw [mJ_2, if_neg (by omega), mI_2]
                rw [r1, r2]
                exact hi i (by omega)
          refine gX11_findUnseen_10 ?_
          simp (disch := omega) only [n_cle, n_eq, n_cmul, nI_add, n_in, nI_clamp]
          refine ⟨fun z => by omega, fun _ => ⟨fun z => ⟨by omega, fun z2 => nx _ _ (by rw [if_neg z]; rfl) (by rw [if_neg z]), fun z2 => absurd z2 z⟩, fun z => ⟨by omega, fun z2 => absurd z z2, fun z2 => nx _ _ (by rw [if_pos z]; rfl) (by rw [if_pos z])⟩⟩⟩
      refine gX11_findUnseen_2 ?_
      simp (disch := omega) only [n_cle]
      exact ⟨fun z => by omega, fun _ => kb 8 0 m rfl hp (fun i hi => by omega) hf⟩
  exact ka 8 0 μ rfl (fun i hi => by omega) Fr.rf
end UNSEEN
