/-! the fewest steps between two of eight towns -/
def dWk (A : Nat → Nat → Prop) : Nat → Nat → Nat → Prop
  | 0, a, b => a = b
  | n + 1, a, b => ∃ c, c < 8 ∧ dWk A n a c ∧ A c b
theorem dLeast {P : Nat → Prop} (h : ∃ n, P n) : ∃ n, P n ∧ ∀ m, m < n → ¬ P m := by
  obtain ⟨n, hn⟩ := h
  induction n using Nat.strongRecOn with
  | ind n ih =>
    by_cases c : ∃ m, m < n ∧ P m
    · obtain ⟨m, h1, h2⟩ := c
      exact ih m h1 h2
    · exact ⟨n, hn, fun m hm hp => c ⟨m, hm, hp⟩⟩
noncomputable def dB (p : Prop) : Bool := @decide p (Classical.propDecidable p)
theorem dB_t {p : Prop} : dB p = true ↔ p := @decide_eq_true_iff p (Classical.propDecidable p)
theorem dB_f {p : Prop} (h : ¬ p) : dB p = false := by
  cases c : dB p with
  | false => rfl
  | true => exact absurd (dB_t.1 c) h
noncomputable def dst (A : Nat → Nat → Prop) (a b : Nat) : Option Nat := @dite _ (∃ n, dWk A n a b) (Classical.propDecidable _) (fun h => some (Classical.choose (dLeast h))) (fun _ => none)
theorem dst_spec {A : Nat → Nat → Prop} {a b n : Nat} : dst A a b = some n ↔ (dWk A n a b ∧ ∀ m, m < n → ¬ dWk A m a b) := by
  unfold dst
  split
  · rename_i h
    have hs := Classical.choose_spec (dLeast h)
    constructor
    · intro e
      cases e
      exact hs
    · intro e
      congr 1
      rcases Nat.lt_trichotomy (Classical.choose (dLeast h)) n with c | c | c
      · exact absurd hs.1 (e.2 _ c)
      · exact c
      · exact absurd e.1 (hs.2 _ c)
  · rename_i h
    constructor
    · intro e; cases e
    · intro e; exact absurd ⟨n, e.1⟩ h
theorem dst_none {A : Nat → Nat → Prop} {a b : Nat} : dst A a b = none ↔ ∀ n, ¬ dWk A n a b := by
  unfold dst
  split
  · rename_i h
    constructor
    · intro e; cases e
    · intro e
      obtain ⟨n, hn⟩ := h
      exact absurd hn (e n)
  · rename_i h
    exact ⟨fun _ n hn => h ⟨n, hn⟩, fun _ => rfl⟩
theorem dst_le {A : Nat → Nat → Prop} {a b n : Nat} (h : dWk A n a b) : ∃ m, m ≤ n ∧ dst A a b = some m := by
  cases c : dst A a b with
  | none => exact absurd h (dst_none.1 c n)
  | some m =>
    refine ⟨m, ?_, rfl⟩
    by_cases l : n < m
    · exact absurd h ((dst_spec.1 c).2 n l)
    · omega
theorem ct_strict {w v : Nat → Bool} : ∀ k, (∀ j, j < k → w j = true → v j = true) → (∃ j, j < k ∧ w j = false ∧ v j = true) → ct w k < ct v k
  | 0, _, ⟨j, h, _⟩ => by omega
  | k + 1, h, ⟨j, h1, h2, h3⟩ => by
    rw [ct_s, ct_s]
    by_cases e : j = k
    · subst e
      have := ct_mono (w := w) (v := v) j (fun i hi => h i (by omega))
      rw [h2, h3]
      simp only [Bool.false_eq_true, if_false, if_true]
      omega
    · have ih := ct_strict (w := w) (v := v) k (fun i hi => h i (by omega)) ⟨j, by omega, h2, h3⟩
      have := h k (by omega)
      by_cases c : w k = true
      · rw [if_pos c, if_pos (this c)]; omega
      · rw [if_neg c]; omega
theorem ct_up {w v : Nat → Bool} {t : Nat} : ∀ k, t < k → w t = false → v t = true → (∀ j, j ≠ t → w j = v j) → ct v k = ct w k + 1
  | 0, h, _, _, _ => by omega
  | k + 1, h, h1, h2, h3 => by
    rw [ct_s, ct_s]
    by_cases e : t = k
    · subst e
      rw [h1, h2, ct_congr t (fun j hj => (h3 j (by omega)).symm)]
      rfl
    · rw [ct_up k (by omega) h1 h2 h3, h3 k (by omega)]
      omega
theorem dst_pre {A : Nat → Nat → Prop} {a : Nat} : ∀ n b, dst A a b = some (n + 1) → ∃ c, c < 8 ∧ dst A a c = some n ∧ A c b := by
  intro n b h
  obtain ⟨⟨c, c1, c2, c3⟩, h2⟩ := dst_spec.1 h
  refine ⟨c, c1, dst_spec.2 ⟨c2, fun m hm w => ?_⟩, c3⟩
  exact h2 (m + 1) (by omega) ⟨c, c1, w, c3⟩
def dLv (A : Nat → Nat → Prop) (a n c : Nat) : Prop := ∃ m, m ≤ n ∧ dst A a c = some m
theorem dst_8 {A : Nat → Nat → Prop} {a b n : Nat} (ha : a < 8) (h : dst A a b = some n) : n < 9 ∧ (b < 8 → n < 8) := by
  have key : ∀ n b, b < 8 → dst A a b = some n → n + 1 ≤ ct (fun c => dB (dLv A a n c)) 8 := by
    intro n
    induction n with
    | zero =>
      intro b hb h
      have : 0 < ct (fun c => dB (dLv A a 0 c)) 8 := Nat.lt_of_le_of_lt (Nat.zero_le (ct (fun _ => false) 8)) (ct_strict 8 (fun j _ w => by cases w) ⟨b, hb, rfl, dB_t.2 ⟨0, by omega, h⟩⟩)
      omega
    | succ n ih =>
      intro b hb h
      obtain ⟨c, c1, c2, c3⟩ := dst_pre n b h
      have i1 := ih c c1 c2
      have := ct_strict (w := fun c => dB (dLv A a n c)) (v := fun c => dB (dLv A a (n + 1) c)) 8 (fun j _ w => by
        obtain ⟨m, m1, m2⟩ := dB_t.1 w
        exact dB_t.2 ⟨m, by omega, m2⟩) ⟨b, hb, dB_f (fun ⟨m, m1, m2⟩ => by rw [h] at m2; cases m2; omega), dB_t.2 ⟨n + 1, by omega, h⟩⟩
      omega
  have small : b < 8 → n < 8 := fun hb => by
    have h1 := key n b hb h
    have h2 := ct_le (fun c => dB (dLv A a n c)) 8
    omega
  refine ⟨?_, small⟩
  cases n with
  | zero => omega
  | succ n =>
    obtain ⟨c, c1, c2, c3⟩ := dst_pre n b h
    have h1 := key n c c1 c2
    have h2 := ct_le (fun c => dB (dLv A a n c)) 8
    omega
theorem dst_refl {A : Nat → Nat → Prop} {a : Nat} : dst A a a = some 0 := dst_spec.2 ⟨rfl, fun m hm => by omega⟩
theorem dst_zero {A : Nat → Nat → Prop} {a b : Nat} (h : dst A a b = some 0) : a = b := (dst_spec.1 h).1
theorem dst_step {A : Nat → Nat → Prop} {a b c n : Nat} (hb : b < 8) (h : dst A a b = some n) (hA : A b c) : ∃ m, m ≤ n + 1 ∧ dst A a c = some m := dst_le (n := n + 1) ⟨b, hb, (dst_spec.1 h).1, hA⟩
/-- what a right table of steps is -/
theorem dst_of {A : Nat → Nat → Prop} {a : Nat} {R : Nat → Option Nat} (h0 : R a = some 0) (h1 : ∀ c, c < 8 → R c = some 0 → c = a) (h2 : ∀ c m, c < 8 → R c = some (m + 1) → ∃ b, b < 8 ∧ R b = some m ∧ A b c) (h3 : ∀ b c n, b < 8 → c < 8 → R b = some n → A b c → ∃ m, m ≤ n + 1 ∧ R c = some m) : ∀ b, b < 8 → R b = dst A a b := by
  have wk : ∀ n b, b < 8 → R b = some n → dWk A n a b := by
    intro n
    induction n with
    | zero => intro b hb h; exact (h1 b hb h).symm
    | succ n ih =>
      intro b hb h
      obtain ⟨c, c1, c2, c3⟩ := h2 b n hb h
      exact ⟨c, c1, ih c c1 c2, c3⟩
  have lo : ∀ n b, b < 8 → dWk A n a b → ∃ m, m ≤ n ∧ R b = some m := by
    intro n
    induction n with
    | zero => intro b hb h; exact ⟨0, by omega, by rw [← show a = b from h]; exact h0⟩
    | succ n ih =>
      intro b hb h
      obtain ⟨c, c1, c2, c3⟩ := h
      obtain ⟨m, m1, m2⟩ := ih c c1 c2
      obtain ⟨k, k1, k2⟩ := h3 c b m c1 hb m2 c3
      exact ⟨k, by omega, k2⟩
  intro b hb
  cases c : R b with
  | none =>
    refine (dst_none.2 (fun n w => ?_)).symm
    obtain ⟨m, m1, m2⟩ := lo n b hb w
    rw [c] at m2
    cases m2
  | some n =>
    refine (dst_spec.2 ⟨wk n b hb c, fun m hm w => ?_⟩).symm
    obtain ⟨k, k1, k2⟩ := lo m b hb w
    rw [c] at k2
    cases k2
    omega
theorem dst_cg {A B : Nat → Nat → Prop} (h : ∀ a b, a < 8 → b < 8 → (A a b ↔ B a b)) {a b : Nat} (ha : a < 8) (hb : b < 8) : dst A a b = dst B a b := by
  have wk : ∀ (A B : Nat → Nat → Prop), (∀ a b, a < 8 → b < 8 → (A a b ↔ B a b)) → ∀ n b, b < 8 → dWk A n a b → dWk B n a b := by
    intro A B h n
    induction n with
    | zero => intro b hb w; exact w
    | succ n ih =>
      intro b hb ⟨c, c1, c2, c3⟩
      exact ⟨c, c1, ih c c1 c2, (h c b c1 hb).1 c3⟩
  cases c : dst A a b with
  | none => exact (dst_none.2 (fun n w => dst_none.1 c n (wk B A (fun a b ha hb => (h a b ha hb).symm) n b hb w))).symm
  | some n => exact (dst_spec.2 ⟨wk A B h n b hb (dst_spec.1 c).1, fun m hm w => (dst_spec.1 c).2 m hm (wk B A (fun a b ha hb => (h a b ha hb).symm) m b hb w)⟩).symm
theorem dWk_cons {A : Nat → Nat → Prop} {a b : Nat} : ∀ n c, a < 8 → b < 8 → A a b → dWk A n b c → dWk A (n + 1) a c
  | 0, c, ha, hb, h, w => ⟨a, ha, rfl, by rw [← show b = c from w]; exact h⟩
  | n + 1, c, ha, hb, h, ⟨d, d1, d2, d3⟩ => ⟨d, d1, dWk_cons n d ha hb h d2, d3⟩
theorem dWk_app {A : Nat → Nat → Prop} {a b : Nat} : ∀ n m c, dWk A m a b → dWk A n b c → dWk A (m + n) a c
  | 0, m, c, h, w => by rw [← show b = c from w]; exact h
  | n + 1, m, c, h, ⟨d, d1, d2, d3⟩ => ⟨d, d1, dWk_app n m d h d2, d3⟩
theorem dWk_sym {A : Nat → Nat → Prop} (hs : ∀ a b, A a b → A b a) : ∀ n a b, a < 8 → b < 8 → dWk A n a b → dWk A n b a
  | 0, a, b, _, _, w => (show a = b from w).symm
  | n + 1, a, b, ha, hb, ⟨d, d1, d2, d3⟩ => dWk_cons n a hb d1 (hs d b d3) (dWk_sym hs n a d ha d1 d2)
theorem dst_sym {A : Nat → Nat → Prop} (hs : ∀ a b, A a b → A b a) {a b : Nat} (ha : a < 8) (hb : b < 8) : dst A a b = dst A b a := by
  cases c : dst A a b with
  | none => exact (dst_none.2 (fun n w => dst_none.1 c n (dWk_sym hs n b a hb ha w))).symm
  | some n => exact (dst_spec.2 ⟨dWk_sym hs n a b ha hb (dst_spec.1 c).1, fun m hm w => (dst_spec.1 c).2 m hm (dWk_sym hs m b a hb ha w)⟩).symm
/-! a search breadth first -/
def dBI (A : Nat → Nat → Prop) (src : Nat) (R : Nat → Option Nat) (Q : Nat → Nat) (q h : Nat) : Prop :=
  (∀ i, i < q → Q i < 8 ∧ ∃ m, R (Q i) = some m ∧ m ≤ i) ∧
  (∀ b, b < 8 → R b ≠ none → ∃ i, i < q ∧ Q i = b) ∧
  (q = ct (fun b => (R b).isSome) 8) ∧
  (∀ i j m n, i ≤ j → j < q → R (Q i) = some m → R (Q j) = some n → m ≤ n) ∧
  (∀ j m n, j < q → h < q → R (Q h) = some m → R (Q j) = some n → n ≤ m + 1) ∧
  (R src = some 0) ∧ (∀ c, c < 8 → R c = some 0 → c = src) ∧
  (∀ c m, c < 8 → R c = some (m + 1) → ∃ b, b < 8 ∧ R b = some m ∧ A b c) ∧
  (∀ i c n, i < h → i < q → c < 8 → R (Q i) = some n → A (Q i) c → ∃ m, m ≤ n + 1 ∧ R c = some m)
theorem dBI.add {A : Nat → Nat → Prop} {src : Nat} {R : Nat → Option Nat} {Q : Nat → Nat} {q h n t : Nat} (H : dBI A src R Q q h) (hh : h < q) (hn : R (Q h) = some n) (hA : A (Q h) t) (ht : t < 8) (hR : R t = none) : q < 8 ∧ dBI A src (up R t (some (n + 1))) (up Q q t) (q + 1) h := by
  obtain ⟨h1, h2, h3, h4, h5, h6, h7, h8, h9⟩ := H
  have q8 : q < 8 := by
    rw [h3]
    have := ct_strict (w := fun b => (R b).isSome) (v := fun _ => true) 8 (fun _ _ _ => rfl) ⟨t, ht, by rw [hR]; rfl, rfl⟩
    exact this
  have ne : ∀ i, i < q → Q i ≠ t := by
    intro i hi e
    obtain ⟨_, m, hm, _⟩ := h1 i hi
    rw [e, hR] at hm
    cases hm
  have qi : ∀ i, i < q → up Q q t i = Q i := fun i hi => by show (if i = q then t else Q i) = _; rw [if_neg (by omega)]
  have rd : ∀ i, i < q → up R t (some (n + 1)) (up Q q t i) = R (Q i) := by
    intro i hi
    rw [qi i hi]
    show (if Q i = t then _ else _) = _
    rw [if_neg (ne i hi)]
  have rq : up R t (some (n + 1)) (up Q q t q) = some (n + 1) := by
    show (if (if q = q then t else Q q) = t then _ else _) = _
    rw [if_pos rfl, if_pos rfl]
  have rb : ∀ b m, R b = some m → up R t (some (n + 1)) b = some m := by
    intro b m hm
    show (if b = t then _ else _) = _
    rw [if_neg (fun e => by rw [e, hR] at hm; cases hm)]
    exact hm
  have hQh := (h1 h hh).1
  have nh : n ≤ h := by
    obtain ⟨_, m, hm, hm2⟩ := h1 h hh
    rw [hn] at hm
    cases hm
    exact hm2
  refine ⟨q8, fun i hi => ?_, fun b hb hbn => ?_, ?_, fun i j m k hij hj hm hk => ?_, fun j m k hj hq hm hk => ?_, rb _ _ h6, fun c hc hcz => ?_, fun c m hc hcm => ?_, fun i c k hi hiq hc hk hAc => ?_⟩
  · by_cases e : i = q
    · subst e
      refine ⟨by show (if i = i then t else Q i) < 8; rw [if_pos rfl]; exact ht, n + 1, rq, by omega⟩
    · rw [rd i (by omega), qi i (by omega)]
      exact h1 i (by omega)
  · by_cases e : b = t
    · exact ⟨q, by omega, by show (if q = q then t else Q q) = b; rw [if_pos rfl, e]⟩
    · have : up R t (some (n + 1)) b = R b := by show (if b = t then _ else _) = _; rw [if_neg e]
      rw [this] at hbn
      obtain ⟨i, i1, i2⟩ := h2 b hb hbn
      exact ⟨i, by omega, by rw [qi i i1, i2]⟩
  · have := ct_up (w := fun b => (R b).isSome) (v := fun b => (up R t (some (n + 1)) b).isSome) (t := t) 8 ht (by show (R t).isSome = false; rw [hR]; rfl) (by show (if t = t then some (n + 1) else R t).isSome = true; rw [if_pos rfl]; rfl) (fun j hj => by show _ = (if j = t then some (n + 1) else R j).isSome; rw [if_neg hj])
    rw [this, ← h3]
  · by_cases ej : j = q
    · subst ej
      rw [rq] at hk
      cases hk
      by_cases ei : i = j
      · subst ei
        rw [rq] at hm
        cases hm
        omega
      · rw [rd i (by omega)] at hm
        exact h5 i n m (by omega) hh hn hm
    · rw [rd i (by omega)] at hm
      rw [rd j (by omega)] at hk
      exact h4 i j m k hij (by omega) hm hk
  · rw [rd h hh, hn] at hm
    cases hm
    by_cases ej : j = q
    · subst ej
      rw [rq] at hk
      cases hk
      omega
    · rw [rd j (by omega)] at hk
      exact h5 j n k (by omega) hh hn hk
  · by_cases e : c = t
    · rw [e] at hcz
      have hcz : (if t = t then some (n + 1) else R t) = some 0 := hcz
      rw [if_pos rfl] at hcz
      cases hcz
    · have hcz : (if c = t then some (n + 1) else R c) = some 0 := hcz
      rw [if_neg e] at hcz
      exact h7 c hc hcz
  · have hcm : (if c = t then some (n + 1) else R c) = some (m + 1) := hcm
    by_cases e : c = t
    · rw [if_pos e] at hcm
      cases hcm
      exact ⟨Q h, hQh, rb _ _ hn, e ▸ hA⟩
    · rw [if_neg e] at hcm
      obtain ⟨b, b1, b2, b3⟩ := h8 c m hc hcm
      exact ⟨b, b1, rb _ _ b2, b3⟩
  · have iq : i < q := by omega
    rw [rd i iq] at hk
    rw [qi i iq] at hAc
    obtain ⟨m, m1, m2⟩ := h9 i c k hi iq hc hk hAc
    exact ⟨m, m1, rb _ _ m2⟩
theorem dBI.next {A : Nat → Nat → Prop} {src : Nat} {R : Nat → Option Nat} {Q : Nat → Nat} {q h : Nat} (H : dBI A src R Q q h) (hh : h < q) (hA : ∀ c, c < 8 → A (Q h) c → R c ≠ none) : dBI A src R Q q (h + 1) := by
  obtain ⟨h1, h2, h3, h4, h5, h6, h7, h8, h9⟩ := H
  obtain ⟨_, m, hm, _⟩ := h1 h hh
  refine ⟨h1, h2, h3, h4, fun j a b hj hq ha hb => ?_, h6, h7, h8, fun i c n hi hiq hc hn hAc => ?_⟩
  · have c1 := h5 j m b hj hh hm hb
    have c2 := h4 h (h + 1) m a (by omega) hq hm ha
    omega
  · by_cases e : i = h
    · subst e
      rw [hm] at hn
      cases hn
      obtain ⟨j, j1, j2⟩ := h2 c hc (hA c hc hAc)
      obtain ⟨_, k, k1, _⟩ := h1 j j1
      rw [← j2]
      exact ⟨k, h5 j m k j1 hh hm k1, k1⟩
    · exact h9 i c n (by omega) hiq hc hn hAc
theorem dBI.fin {A : Nat → Nat → Prop} {src : Nat} {R : Nat → Option Nat} {Q : Nat → Nat} {q h : Nat} (H : dBI A src R Q q h) (hh : q ≤ h) : ∀ b, b < 8 → R b = dst A src b := by
  obtain ⟨h1, h2, h3, h4, h5, h6, h7, h8, h9⟩ := H
  refine dst_of h6 h7 h8 (fun b c n hb hc hn hA => ?_)
  obtain ⟨i, i1, i2⟩ := h2 b hb (by rw [hn]; exact fun z => by cases z)
  rw [← i2] at hn hA
  exact h9 i c n (by omega) i1 hc hn hA
