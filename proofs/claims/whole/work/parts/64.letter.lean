/-! the letters of the least shortest way -/
noncomputable def lpT (L : LD) (S c e D : Nat) : Nat → Nat
  | 0 => c
  | j + 1 => lE L (nlL L S (lpT L S c e D j) e (D - j - 1))
noncomputable def lpL (L : LD) (S c e D j : Nat) : Nat := nlL L S (lpT L S c e D j) e (D - j - 1)
theorem nlL_is {L : LD} {S c e k : Nat} (hL : Lok L) (hc : c < 8) (he : e < 8) (h : dst (lA L S) c e = some (k + 1)) : gdL L S c e k (nlL L S c e k) := by
  obtain ⟨l0, g0⟩ := gdL_ex hc he h
  have ex : ∃ l, isL L S c e k l := by
    have : ∃ v, (fun v => ∃ l, gdL L S c e k l ∧ byO l = v) v := ⟨_, l0, g0, rfl⟩
    obtain ⟨v, ⟨l, g, hv⟩, hm⟩ := dLeast this
    refine ⟨l, g, fun m gm => ?_⟩
    by_cases q : byO m < v
    · exact absurd ⟨m, gm, rfl⟩ (hm _ q)
    · omega
  obtain ⟨l, hl⟩ := ex
  rw [nlL_eq hL.1 hl]
  exact hl.1
theorem lpT_ok {L : LD} {S c e D : Nat} (hL : Lok L) (hc : c < 8) (he : e < 8) (h : dst (lA L S) c e = some D) : ∀ j, j ≤ D → lpT L S c e D j < 8 ∧ dst (lA L S) (lpT L S c e D j) e = some (D - j)
  | 0, _ => ⟨hc, h⟩
  | j + 1, hj => by
    obtain ⟨h1, h2⟩ := lpT_ok hL hc he h j (by omega)
    rw [show D - j = (D - j - 1) + 1 by omega] at h2
    have g := nlL_is hL h1 he h2
    refine ⟨(hL.2 _ g.1).2, ?_⟩
    rw [show D - (j + 1) = D - j - 1 by omega]
    exact g.2.2.2
noncomputable def rDn (L : LD) (S N : Nat) (B : Nat → Nat) (f t i : Nat) : Nat := (rD L S N B f t i).getD 1000
noncomputable def rps (L : LD) (S N : Nat) (B : Nat → Nat) (f t k : Nat) : Nat := k + rsm L S N B f t k
def rlR (L : LD) (S N : Nat) (B : Nat → Nat) (f t n r : Nat) : Prop := ∃ k j, k ≤ N ∧ n = rps L S N B f t k + j ∧ ((j < rDn L S N B f t k ∧ r = lpL L S (og L B f k) (gl L N B t k) (rDn L S N B f t k) j) ∨ (k < N ∧ j = rDn L S N B f t k ∧ r = B k))
theorem rps_s {L : LD} {S N : Nat} {B : Nat → Nat} {f t k : Nat} : rps L S N B f t (k + 1) = rps L S N B f t k + (rDn L S N B f t k + 1) := by
  unfold rps rDn
  show k + 1 + (rsm L S N B f t k + (rD L S N B f t k).getD 1000) = _
  omega
theorem rps_mono {L : LD} {S N : Nat} {B : Nat → Nat} {f t k : Nat} : ∀ d, rps L S N B f t k + (rDn L S N B f t k + 1) ≤ rps L S N B f t (k + 1 + d)
  | 0 => Nat.le_of_eq rps_s.symm
  | d + 1 => by
    have := rps_mono (L := L) (S := S) (N := N) (B := B) (f := f) (t := t) (k := k) d
    rw [show k + 1 + (d + 1) = (k + 1 + d) + 1 by omega, rps_s]
    omega
theorem rlR_un {L : LD} {S N : Nat} {B : Nat → Nat} {f t n r s : Nat} (h1 : rlR L S N B f t n r) (h2 : rlR L S N B f t n s) : r = s := by
  obtain ⟨k, j, k1, k2, k3⟩ := h1
  obtain ⟨k', j', k1', k2', k3'⟩ := h2
  have e : k = k' := by
    rcases Nat.lt_trichotomy k k' with w | w | w
    · have := rps_mono (L := L) (S := S) (N := N) (B := B) (f := f) (t := t) (k := k) (k' - k - 1)
      rw [show k + 1 + (k' - k - 1) = k' by omega] at this
      omega
    · exact w
    · have := rps_mono (L := L) (S := S) (N := N) (B := B) (f := f) (t := t) (k := k') (k - k' - 1)
      rw [show k' + 1 + (k - k' - 1) = k by omega] at this
      omega
  subst e
  have e2 : j = j' := by omega
  subst e2
  rcases k3 with ⟨a, b⟩ | ⟨a, b, c⟩ <;> rcases k3' with ⟨a', b'⟩ | ⟨a', b', c'⟩
  · rw [b, b']
  · omega
  · omega
  · rw [c, c']
section LETTER
variable {E : EV} {μ ν : Mem} {L : LD} {S N : Nat} {B : Nat → Nat} {f t i : Nat} {tn : Nat → Nat} {tb : Nat → Nat → Nat} {p q : PA}
theorem rD_s (hr : rok L S N B f t (N + 1)) {k : Nat} (hk : k ≤ N) : dst (lA L S) (og L B f k) (gl L N B t k) = some (rDn L S N B f t k) := by
  have := (hr k (by omega)).1
  unfold rDn
  cases c : rD L S N B f t k with
  | none => exact absurd c this
  | some n => exact c
theorem cR_leastLaneLetter {c e D i : Nat} (h : RTE μ L S N B) (hc : c < 8) (he : e < 8) (hd : dst (lA L S) c e = some D) (hi : i < D) : Rt E MX6_leastLaneLetter [.ref 11, .int (nI c), .int (nI e), .int (nI i)] μ (some (.int (nI (lpL L S c e D i)))) μ := by
  have hL := h.1.ok
  have D9 := (dst_8 hc hd).1
  refine Sp.go rfl rfl rfl (gX6_leastLaneLetter_0 ?_)
  have key : ∀ d k (x : Int32), k + d = i + 1 → (0 < k → x = nI (lpL L S c e D (k - 1))) → Ex E MX6_leastLaneLetter (fun v' ν' => v' = some (.int (nI (lpL L S c e D i))) ∧ ν' = μ) 9 [(0, .ref 11), (1, .int (nI c)), (2, .int (nI e)), (3, .int (nI i)), (4, .int (nI (lpT L S c e D k))), (5, .int x), (6, .int (nI k))] [] μ := by
    intro d
    induction d with
    | zero =>
      intro k x hk hx
      have : k = i + 1 := by omega
      subst this
      refine gX6_leastLaneLetter_9 ?_
      rw [n_lt (by omega) (by omega)]
      exact ⟨fun _ => ⟨by rw [hx (by omega)]; rfl, rfl⟩, fun z => by omega⟩
    | succ d ih =>
      intro k x hk hx
      obtain ⟨h1, h2⟩ := lpT_ok hL hc he hd k (by omega)
      rw [show D - k = (D - k - 1) + 1 by omega] at h2
      have g := nlL_is hL h1 he h2
      refine gX6_leastLaneLetter_9 ?_
      rw [n_lt (by omega) (by omega)]
      refine ⟨fun z => by omega, fun _ => Rt.i (cR_leastNearer h h1 he h2) (Rt.i (cL_to h.1 g.1) (fun v6 e6 => ?_))⟩
      rw [e6, n_addc]
      exact ih (k + 1) _ (by omega) (fun _ => rfl)
  exact key (i + 1) 0 _ (by omega) (fun w => by omega)
theorem cR_leastLetter (h : RTE μ L S N B) (hf : f < 8) (ht : t < 8) (hr : rok L S N B f t (N + 1)) (hi : i < N + rsm L S N B f t (N + 1)) : Sp E MX6_leastLetter [.ref 11, .int (nI f), .int (nI t), .int (nI i)] μ (fun v ν => ∃ r, v = some (.int r) ∧ (∃ l, l < 2 * L.1 ∧ r = nI l ∧ rlR L S N B f t i l ∧ ν = μ)) := by
  have hL := h.1.ok
  have h6 := h.2.2.2.2.2
  have b60 := h6.1
  have sb := rsm_le (S := S) (t := t) hL h6 hf (N + 1) (Nat.le_refl _)
  have tot : N + rsm L S N B f t (N + 1) = rps L S N B f t N + rDn L S N B f t N := by
    unfold rps rDn
    show N + (rsm L S N B f t N + (rD L S N B f t N).getD 1000) = _
    omega
  refine Sp.go rfl rfl rfl (gX6_leastLetter_0 ?_)
  have key : ∀ d k left, k + d = N → i = rps L S N B f t k + left → Ex E MX6_leastLetter (fun v ν => ∃ r, v = some (.int r) ∧ (∃ l, l < 2 * L.1 ∧ r = nI l ∧ rlR L S N B f t i l ∧ ν = μ)) 6 [(0, .ref 11), (1, .int (nI f)), (2, .int (nI t)), (3, .int (nI i)), (4, .int (nI left)), (5, .int (nI k))] [] μ := by
    intro d
    induction d with
    | zero =>
      intro k left hk hi'
      have : k = N := by omega
      subst this
      have o8 := og_lt (i := k) hL h6 hf (by omega)
      have g8 := gl_lt (i := k) hL h6 ht
      have hD := rD_s hr (Nat.le_refl k)
      have D9 := (dst_8 o8 hD).1
      refine gX6_leastLetter_6 ?_
      rw [h.2.2.2.1.1, n_lt (by omega) (by omega)]
      refine ⟨fun z => by omega, fun _ => Rt.i (cR_origin h (by omega)) (Rt.i (cR_goal h (by omega)) (Rt.i (cD_between Dk12 o8 g8) ?_))⟩
      rw [h.2.2.2.2.1 _ _ o8 g8, hD]
      show (nI _ ≤ _ → _) ∧ _
      rw [n_le (by omega) (by omega)]
      have lt : left < rDn L S k B f t k := by omega
      refine ⟨fun z => by omega, fun z => Rt.i (cR_leastLaneLetter h o8 g8 hD lt) ⟨_, rfl, _, ?_, rfl, ⟨k, left, by omega, hi', Or.inl ⟨lt, rfl⟩⟩, rfl⟩⟩
      obtain ⟨q1, q2⟩ := lpT_ok hL o8 g8 hD left (by omega)
      rw [show rDn L S k B f t k - left = (rDn L S k B f t k - left - 1) + 1 by omega] at q2
      exact (nlL_is hL q1 g8 q2).1
    | succ d ih =>
      intro k left hk hi'
      have o8 := og_lt (i := k) hL h6 hf (by omega)
      have g8 := gl_lt (i := k) hL h6 ht
      have hD := rD_s hr (show k ≤ N by omega)
      have D9 := (dst_8 o8 hD).1
      refine gX6_leastLetter_6 ?_
      rw [h.2.2.2.1.1, n_lt (by omega) (by omega)]
      refine ⟨fun z => by omega, fun _ => Rt.i (cR_origin h (by omega)) (Rt.i (cR_goal h (by omega)) (Rt.i (cD_between Dk12 o8 g8) ?_))⟩
      rw [h.2.2.2.2.1 _ _ o8 g8, hD]
      show (nI (rDn L S N B f t k) ≤ nI left → (¬ nI left = nI (rDn L S N B f t k) → ∀ v10 : Int32, v10 = nI left - (nI (rDn L S N B f t k) + 1) → _) ∧ (nI left = nI (rDn L S N B f t k) → _)) ∧ (¬ nI (rDn L S N B f t k) ≤ nI left → _)
      rw [n_le (by omega) (by omega), n_eq (by omega) (by omega)]
      refine ⟨fun z => ⟨fun z2 v10 e10 v11 e11 => ?_, fun z2 => Rt.i (cR_needAt h (by omega)) ⟨_, rfl, _, h6.2 k (by omega), rfl, ⟨k, left, by omega, hi', Or.inr ⟨by omega, z2, rfl⟩⟩, rfl⟩⟩, fun z => Rt.i (cR_leastLaneLetter h o8 g8 hD (by omega)) ⟨_, rfl, _, ?_, rfl, ⟨k, left, by omega, hi', Or.inl ⟨by omega, rfl⟩⟩, rfl⟩⟩
      · rw [n_addc, pk_sub (by omega)] at e10
        rw [e10, e11, n_addc]
        refine ih (k + 1) (left - (rDn L S N B f t k + 1)) (by omega) ?_
        rw [rps_s]
        omega
      · obtain ⟨q1, q2⟩ := lpT_ok hL o8 g8 hD left (by omega)
        rw [show rDn L S N B f t k - left = (rDn L S N B f t k - left - 1) + 1 by omega] at q2
        exact (nlL_is hL q1 g8 q2).1
  refine key N 0 i (by omega) ?_
  show i = 0 + 0 + i
  omega
end LETTER
