/-! errands: the fewest gates with so many watched ones at most -/
def eWk (L : LD) (S h : Nat) : Nat → Nat → Nat → Prop
  | 0, _, t => t = h
  | n + 1, s, t => ∃ l, l < 2 * L.1 ∧ S.testBit (l / 2) = false ∧ lE L l = t ∧ ((lW L l = false ∧ eWk L S h n s (lS L l)) ∨ (lW L l = true ∧ ∃ r, s = r + 1 ∧ eWk L S h n r (lS L l)))
theorem eWk_mono {L : LD} {S h : Nat} : ∀ n s t, eWk L S h n s t → eWk L S h n (s + 1) t
  | 0, _, _, w => w
  | n + 1, s, t, ⟨l, l1, l2, l3, l4⟩ => ⟨l, l1, l2, l3, l4.imp (fun w => ⟨w.1, eWk_mono n s _ w.2⟩) (fun ⟨w1, r, w2, w3⟩ => ⟨w1, r + 1, by omega, eWk_mono n r _ w3⟩)⟩
theorem eWk_le {L : LD} {S h n s t : Nat} (w : eWk L S h n s t) : ∀ d, eWk L S h n (s + d) t
  | 0 => w
  | d + 1 => eWk_mono _ _ _ (eWk_le w d)
theorem eWk_lanes {L : LD} {S h n s c : Nat} (w : eWk L S h n s c) : ∀ m t, dWk (lA L S) m c t → eWk L S h (n + m) s t
  | 0, t, v => by rw [← show c = t from v]; exact w
  | m + 1, t, ⟨d, d1, d2, l, l1, l2, l3, l4⟩ => ⟨l, l1, l2.2, l4, Or.inl ⟨l2.1, by rw [l3]; exact eWk_lanes w m d d2⟩⟩
noncomputable def eV (L : LD) (S h s t : Nat) : Nat := Classical.choose (dLeast (P := fun n => n = 1000 ∨ eWk L S h n s t) ⟨1000, Or.inl rfl⟩)
theorem eV_spec (L : LD) (S h s t : Nat) : eV L S h s t ≤ 1000 ∧ (eV L S h s t < 1000 → eWk L S h (eV L S h s t) s t) ∧ ∀ n, eWk L S h n s t → eV L S h s t ≤ n := by
  have sp := Classical.choose_spec (dLeast (P := fun n => n = 1000 ∨ eWk L S h n s t) ⟨1000, Or.inl rfl⟩)
  refine ⟨?_, fun w => ?_, fun n w => ?_⟩
  · by_cases c : 1000 < eV L S h s t
    · exact absurd (Or.inl rfl) (sp.2 1000 c)
    · omega
  · rcases sp.1 with q | q
    · have q : eV L S h s t = 1000 := q
      omega
    · exact q
  · by_cases c : n < eV L S h s t
    · exact absurd (Or.inr w) (sp.2 n c)
    · omega
theorem eV_un {L : LD} {S h s t x : Nat} (h1 : x ≤ 1000) (h2 : x < 1000 → eWk L S h x s t) (h3 : ∀ n, eWk L S h n s t → x ≤ n) : x = eV L S h s t := by
  obtain ⟨q1, q2, q3⟩ := eV_spec L S h s t
  by_cases a : x < 1000
  · have := q3 x (h2 a)
    have := h3 _ (q2 (by omega))
    omega
  · by_cases b : eV L S h s t < 1000
    · have := h3 _ (q2 b)
      omega
    · omega
theorem eV_mono {L : LD} {S h s t : Nat} : eV L S h (s + 1) t ≤ eV L S h s t := by
  obtain ⟨q1, q2, q3⟩ := eV_spec L S h s t
  obtain ⟨r1, r2, r3⟩ := eV_spec L S h (s + 1) t
  by_cases a : eV L S h s t < 1000
  · exact r3 _ (eWk_mono _ _ _ (q2 a))
  · omega
theorem eV_anti {L : LD} {S h s t : Nat} : ∀ d, eV L S h (s + d) t ≤ eV L S h s t
  | 0 => Nat.le_refl _
  | d + 1 => Nat.le_trans eV_mono (eV_anti d)
theorem eV_lane {L : LD} {S h s l : Nat} (hl : l < 2 * L.1) (h1 : S.testBit (l / 2) = false) (h2 : lW L l = false) : eV L S h s (lE L l) ≤ eV L S h s (lS L l) + 1 := by
  obtain ⟨q1, q2, q3⟩ := eV_spec L S h s (lS L l)
  obtain ⟨r1, r2, r3⟩ := eV_spec L S h s (lE L l)
  by_cases a : eV L S h s (lS L l) < 1000
  · exact r3 _ ⟨l, hl, h1, rfl, Or.inl ⟨h2, q2 a⟩⟩
  · omega
theorem eV_watch {L : LD} {S h s l : Nat} (hl : l < 2 * L.1) (h1 : S.testBit (l / 2) = false) (h2 : lW L l = true) : eV L S h (s + 1) (lE L l) ≤ eV L S h s (lS L l) + 1 := by
  obtain ⟨q1, q2, q3⟩ := eV_spec L S h s (lS L l)
  obtain ⟨r1, r2, r3⟩ := eV_spec L S h (s + 1) (lE L l)
  by_cases a : eV L S h s (lS L l) < 1000
  · exact r3 _ ⟨l, hl, h1, rfl, Or.inr ⟨h2, s, rfl, q2 a⟩⟩
  · omega
theorem eV_home {L : LD} {S h s : Nat} : eV L S h s h = 0 := by
  have := (eV_spec L S h s h).2.2 0 rfl
  omega
/-- where one stamp more helps nobody, none helps -/
theorem eV_fix {L : LD} {S h s : Nat} (hL : Lok L) (hh : h < 8) (hx : ∀ t, t < 8 → eV L S h s t = eV L S h (s + 1) t) : ∀ n r t, eWk L S h n r t → eV L S h s t ≤ n
  | 0, r, t, w => by
    have w : t = h := w
    rw [w, eV_home]
    exact Nat.le_refl 0
  | n + 1, r, t, ⟨l, l1, l2, l3, l4⟩ => by
    rcases l4 with ⟨w1, w2⟩ | ⟨w1, r', w2, w3⟩
    · have := eV_fix hL hh hx n r _ w2
      have := eV_lane (h := h) (s := s) l1 l2 w1
      rw [← l3]
      omega
    · have := eV_fix hL hh hx n r' _ w3
      have := eV_watch (h := h) (s := s) l1 l2 w1
      rw [← hx _ (hL.2 l l1).2] at this
      rw [← l3]
      omega
theorem eV_fixd {L : LD} {S h s : Nat} (hL : Lok L) (hh : h < 8) (hx : ∀ t, t < 8 → eV L S h s t = eV L S h (s + 1) t) (d t : Nat) : eV L S h (s + d) t = eV L S h s t := by
  obtain ⟨q1, q2, q3⟩ := eV_spec L S h s t
  exact (eV_un q1 (fun w => eWk_le (q2 w) d) (fun n w => eV_fix hL hh hx n _ t w)).symm
theorem eV_0 {L : LD} {S h t : Nat} (hL : Lok L) (hh : h < 8) : (dst (lA L S) h t).getD 1000 = eV L S h 0 t := by
  have wk : ∀ n t, eWk L S h n 0 t → dWk (lA L S) n h t := by
    intro n
    induction n with
    | zero => intro t w; exact (show t = h from w).symm
    | succ n ih =>
      intro t ⟨l, l1, l2, l3, l4⟩
      rcases l4 with ⟨w1, w2⟩ | ⟨w1, r, w2, w3⟩
      · exact ⟨lS L l, (hL.2 l l1).1, ih _ w2, l, l1, ⟨w1, l2⟩, rfl, l3⟩
      · omega
  have bw : ∀ n t, dWk (lA L S) n h t → eWk L S h n 0 t := fun n t w => by
    have := eWk_lanes (L := L) (S := S) (h := h) (n := 0) (s := 0) (c := h) rfl n t w
    rw [Nat.zero_add] at this
    exact this
  refine eV_un (dst_g hh) (fun w => ?_) (fun n w => ?_)
  · cases c : dst (lA L S) h t with
    | none => rw [c] at w; exact absurd w (by decide)
    | some n => exact bw n t (dst_spec.1 c).1
  · obtain ⟨m, m1, m2⟩ := dst_le (wk n t w)
    rw [m2]
    exact m1
/-- one stamp more: what is right of it -/
theorem eV_up {L : LD} {S h s : Nat} {X : Nat → Nat} (h0 : ∀ t, t < 8 → X t ≤ eV L S h s t) (h1 : ∀ t, t < 8 → X t < 1000 → eWk L S h (X t) (s + 1) t) (h2 : ∀ l, l < 2 * L.1 → S.testBit (l / 2) = false → lW L l = false → X (lE L l) ≤ X (lS L l) + 1) (h3 : ∀ l, l < 2 * L.1 → S.testBit (l / 2) = false → lW L l = true → X (lE L l) ≤ eV L S h s (lS L l) + 1) (hL : Lok L) (hh : h < 8) : ∀ t, t < 8 → X t = eV L S h (s + 1) t := by
  have lb : ∀ n t, t < 8 → eWk L S h n (s + 1) t → X t ≤ n := by
    intro n
    induction n with
    | zero =>
      intro t ht w
      have w : t = h := w
      have := h0 h hh
      rw [eV_home] at this
      rw [w]
      exact this
    | succ n ih =>
      intro t ht ⟨l, l1, l2, l3, l4⟩
      rw [← l3]
      rcases l4 with ⟨w1, w2⟩ | ⟨w1, r, w2, w3⟩
      · have := ih _ (hL.2 l l1).1 w2
        have := h2 l l1 l2 w1
        omega
      · have e : r = s := by omega
        subst e
        have := (eV_spec L S h r (lS L l)).2.2 n w3
        have := h3 l l1 l2 w1
        omega
  intro t ht
  exact eV_un (Nat.le_trans (h0 t ht) (eV_spec L S h s t).1) (h1 t ht) (fun n w => lb n t ht w)
noncomputable def cnX (L : LD) (S : Nat) (X : Nat → Nat) (c g t : Nat) : Nat := match dst (lA L S) c t with
  | some k => min (X t) (g + k)
  | none => X t
theorem cnX_le {L : LD} {S c g t : Nat} {X : Nat → Nat} : cnX L S X c g t ≤ X t := by
  unfold cnX
  cases dst (lA L S) c t with
  | none => exact Nat.le_refl _
  | some k => exact Nat.min_le_left _ _
section ERR
variable {E : EV} {μ ν : Mem} {L : LD} {S h s : Nat} {X : Nat → Nat} {tn : Nat → Nat} {tb : Nat → Nat → Nat}
theorem Dk28 : Dok 28 := ⟨by decide, by decide, by decide, by decide⟩
def ERE (μ : Mem) (L : LD) (S : Nat) : Prop := CL μ L ∧ S < 512 ∧ μ.1 1 3 = nI S ∧ DMs μ 28 (lA L S)
def EST (m : Mem) (X : Nat → Nat) : Prop := ∀ t, t < 8 → m.1 40 t = nI (X t)
def S40 (o _k : Nat) : Prop := o = 40 ∨ o = 41
theorem ERE.fr (h : ERE μ L S) (hf : Fr S40 μ ν) : ERE ν L S := by
  obtain ⟨h1, h2, h3, h4⟩ := h
  exact ⟨h1.frS hf (fun k => by unfold S40; omega) (fun k => by unfold S40; omega), h2, by rw [(hf _ _ (by unfold S40; omega)).1]; exact h3, Fr.DMs h4 hf (fun a k ha => by unfold S40; omega)⟩
theorem cE_comeNearer {c g : Nat} (hE : ERE μ L S) (hX : EST μ X) (h1 : ∀ t, t < 8 → X t ≤ 1000) (hc : c < 8) (hg : g ≤ 1001) : Sp E MX1_comeNearer [.ref 27, .int (nI c), .int (nI g)] μ (fun v ν => ∃ r, v = some (.int r) ∧ (Fr (fun o _ => o = 40) μ ν ∧ ((g < X c ∧ r = 1 ∧ EST ν (cnX L S X c g)) ∨ (¬ g < X c ∧ r = 0 ∧ EST ν X)))) := by
  have x1 := h1 c hc
  refine Sp.go rfl rfl rfl (gX1_comeNearer_0 ?_)
  simp (disch := omega) only [n_in, nI_clamp]
  rw [hX c hc, n_lt (by omega) (by omega)]
  refine ⟨hc, fun z => ?_, fun z => ⟨_, rfl, Fr.rf, Or.inr ⟨z, rfl, hX⟩⟩⟩
  have key : ∀ d k m, k + d = 8 → Fr (fun o _ => o = 40) μ m → (∀ t, t < 8 → m.1 40 t = nI (if t < k then cnX L S X c g t else X t)) → Ex E MX1_comeNearer (fun v ν => ∃ r, v = some (.int r) ∧ (Fr (fun o _ => o = 40) μ ν ∧ ((g < X c ∧ r = 1 ∧ EST ν (cnX L S X c g)) ∨ (¬ g < X c ∧ r = 0 ∧ EST ν X)))) 14 [(0, .ref 27), (1, .int (nI c)), (2, .int (nI g)), (3, .int (nI k))] [] m := by
    intro d
    induction d with
    | zero =>
      intro k m hk hf hm
      have : k = 8 := by omega
      subst this
      refine gX1_comeNearer_14 ⟨fun _ => ⟨_, rfl, hf, Or.inl ⟨z, rfl, fun t ht => ?_⟩⟩, fun z => absurd (by decide) z⟩
      rw [hm t ht, if_pos ht]
    | succ d ih =>
      intro k m hk hf hm
      have k8 : k < 8 := by omega
      have hE' := hE.fr (hf.up (fun o _ w => Or.inl w))
      have mk := hm k k8
      rw [if_neg (by omega)] at mk
      have xk := h1 k k8
      refine gX1_comeNearer_14 ?_
      rw [n_cle (by omega) (by decide)]
      refine ⟨fun z => absurd (show 8 ≤ k from z) (by omega), fun _ => Rt.i (cD_between Dk28 hc k8) ?_⟩
      rw [hE'.2.2.2 c k hc k8]
      have m1 : (oI (dst (lA L S) c k) = -1) = (dst (lA L S) c k = none) := oI_m1 _ (fun j hj => by have := (dst_8 hc hj).1; omega)
      rw [m1]
      simp (disch := omega) only [n_in, nI_clamp]
      refine ⟨fun z2 v5 e5 => ?_, fun z2 => ⟨k8, fun v7 e7 v8 e8 => ?_⟩⟩
      · rw [e5, n_addc]
        refine ih (k + 1) m (by omega) hf (fun t ht => ?_)
        rw [hm t ht]
        by_cases q : t = k
        · rw [if_neg (by omega), if_pos (by omega), q]
          unfold cnX
          rw [z2]
        · by_cases q2 : t < k
          · rw [if_pos q2, if_pos (by omega)]
          · rw [if_neg q2, if_neg (by omega)]
      · have vX : v7 = nI (cnX L S X c g k) := by
          rw [e7, mk]
          unfold cnX
          cases q : dst (lA L S) c k with
          | none => exact absurd q z2
          | some j =>
            have j9 := (dst_8 hc q).1
            show (if nI g + nI j < nI (X k) then nI g + nI j else nI (X k)) = nI (min (X k) (g + j))
            rw [nI_add]
            by_cases w : g + j < X k
            · rw [if_pos (by rw [n_lt (by omega) (by omega)]; exact w), Nat.min_eq_right (by omega)]
            · rw [if_neg (by rw [n_lt (by omega) (by omega)]; exact w), Nat.min_eq_left (by omega)]
        rw [e8, n_addc, vX]
        refine ih (k + 1) _ (by omega) (Fr.tr hf (Fr.I rfl)) (fun t ht => ?_)
        rw [mI_1]
        by_cases q : t = k
        · rw [if_pos ⟨rfl, q⟩, if_pos (by omega), q]
        · rw [if_neg (fun w => q w.2), hm t ht]
          by_cases q2 : t < k
          · rw [if_pos q2, if_pos (by omega)]
          · rw [if_neg q2, if_neg (by omega)]
  refine key 8 0 μ rfl Fr.rf (fun t ht => ?_)
  rw [hX t ht, if_neg (by omega)]
end ERR
