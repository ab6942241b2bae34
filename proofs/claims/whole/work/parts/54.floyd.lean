section FLOYD
variable {E : EV} {μ ν : Mem} {A B : Nat → Nat → Prop} {L : LD} {S : Nat}
def FMm (m : Mem) (F : Nat → Nat) : Prop := ∀ i, i < 64 → m.1 146 i = nI (F i)
def S146 (o _k : Nat) : Prop := o = 146
def fFJ (A : Nat → Nat → Prop) (F : Nat → Nat) : Prop := ∀ a b, a < 8 → b < 8 → (a = b → F (8 * a + b) = 0) ∧ (a ≠ b → A a b → F (8 * a + b) = 1) ∧ (a ≠ b → ¬ A a b → F (8 * a + b) = 1000)
def fSd (A : Nat → Nat → Prop) (F : Nat → Nat) : Prop := ∀ a b, a < 8 → b < 8 → F (8 * a + b) ≤ 1000 ∧ (a = b → F (8 * a + b) = 0) ∧ (A a b → F (8 * a + b) ≤ 1) ∧ (F (8 * a + b) < 1000 → dWk A (F (8 * a + b)) a b)
def fTri (F : Nat → Nat) (k : Nat) : Prop := ∀ m a b, m < k → a < 8 → b < 8 → F (8 * a + b) ≤ F (8 * a + m) + F (8 * m + b)
def fMin (F : Nat → Nat) (t i : Nat) : Nat := min (F i) (F (8 * (i / 8) + t) + F (8 * t + i % 8))
theorem fSd_of {F : Nat → Nat} (h : fFJ A F) : fSd A F := by
  intro a b ha hb
  obtain ⟨h1, h2, h3⟩ := h a b ha hb
  by_cases e : a = b
  · have := h1 e
    exact ⟨by omega, fun _ => this, fun _ => by omega, fun _ => by rw [this]; exact e⟩
  · by_cases c : A a b
    · have := h2 e c
      exact ⟨by omega, fun z => absurd z e, fun _ => by omega, fun _ => by rw [this]; exact ⟨a, ha, rfl, c⟩⟩
    · have := h3 e c
      exact ⟨by omega, fun z => absurd z e, fun z => absurd z c, fun _ => by omega⟩
theorem fMin_ab {F : Nat → Nat} {t a b : Nat} (hb : b < 8) : fMin F t (8 * a + b) = min (F (8 * a + b)) (F (8 * a + t) + F (8 * t + b)) := by
  unfold fMin
  rw [show (8 * a + b) / 8 = a by omega, show (8 * a + b) % 8 = b by omega]
theorem fSd_min {F : Nat → Nat} {t : Nat} (h : fSd A F) (ht : t < 8) : fSd A (fMin F t) := by
  intro a b ha hb
  obtain ⟨h1, h2, h3, h4⟩ := h a b ha hb
  obtain ⟨p1, p2, p3, p4⟩ := h a t ha ht
  obtain ⟨q1, q2, q3, q4⟩ := h t b ht hb
  rw [fMin_ab hb]
  refine ⟨by omega, fun e => by have := h2 e; omega, fun c => by have := h3 c; omega, fun l => ?_⟩
  by_cases c : F (8 * a + b) ≤ F (8 * a + t) + F (8 * t + b)
  · rw [Nat.min_eq_left c] at l ⊢
    exact h4 l
  · rw [Nat.min_eq_right (by omega)] at l ⊢
    exact dWk_app _ _ _ (p4 (by omega)) (q4 (by omega))
theorem fTri_min {F : Nat → Nat} {t : Nat} (h : fTri F t) (ht : t < 8) : fTri (fMin F t) (t + 1) := by
  intro m a b hm ha hb
  rw [fMin_ab hb, fMin_ab (by omega), fMin_ab hb]
  by_cases e : m = t
  · subst e
    omega
  · have h1 := h m a b (by omega) ha hb
    have h2 := h m a t (by omega) ha ht
    have h3 := h m t b (by omega) ht hb
    omega
theorem fdone {F : Nat → Nat} (h : fSd A F) (hT : fTri F 8) {a b : Nat} (ha : a < 8) (hb : b < 8) : F (8 * a + b) = (dst A a b).getD 1000 := by
  have le : ∀ n b, b < 8 → dWk A n a b → F (8 * a + b) ≤ n := by
    intro n
    induction n with
    | zero =>
      intro b hb w
      have := (h a b ha hb).2.1 w
      omega
    | succ n ih =>
      intro b hb ⟨c, c1, c2, c3⟩
      have h1 := ih c c1 c2
      have h2 := (h c b c1 hb).2.2.1 c3
      have h3 := hT c a b c1 ha hb
      omega
  obtain ⟨h1, h2, h3, h4⟩ := h a b ha hb
  cases c : dst A a b with
  | none =>
    show _ = 1000
    by_cases l : F (8 * a + b) < 1000
    · exact absurd (h4 l) (dst_none.1 c _)
    · omega
  | some n =>
    show _ = n
    have n8 := (dst_8 ha c).2 hb
    obtain ⟨d1, d2⟩ := dst_spec.1 c
    have l := le n b hb d1
    by_cases e : F (8 * a + b) < n
    · exact absurd (h4 (by omega)) (d2 _ e)
    · omega
theorem cM_joins {a b : Nat} {F : Nat → Nat} (ha : a < 8) (hb : b < 8) (hM : FMm μ F) (hF : fFJ A F) : Sp E MX11_joins [.ref 123, .int (nI a), .int (nI b)] μ (fun v ν => v = none ∧ ((∃ F', FMm ν F' ∧ fFJ (fun c e => A c e ∨ (c = a ∧ e = b)) F') ∧ Fr S146 μ ν)) := by
  refine Sp.go rfl rfl rfl (gX11_joins_0 ?_)
  simp (disch := omega) only [n_eq, n_cmul, nI_add, n_in, nI_clamp]
  have st : ∀ x : Nat, x = (if a = b then 0 else 1) → ∃ F', FMm (mI μ 146 (8 * a + b) (nI x)) F' ∧ fFJ (fun c e => A c e ∨ (c = a ∧ e = b)) F' := by
    intro x hx
    refine ⟨up F (8 * a + b) x, fun i hi => ?_, fun c e hc he => ?_⟩
    · rw [mI_1]
      show _ = nI (if i = 8 * a + b then x else F i)
      by_cases q : i = 8 * a + b
      · rw [if_pos ⟨rfl, q⟩, if_pos q]
      · rw [if_neg (fun w => q w.2), if_neg q]; exact hM i hi
    · obtain ⟨h1, h2, h3⟩ := hF c e hc he
      show (c = e → (if 8 * c + e = 8 * a + b then x else F (8 * c + e)) = 0) ∧ (c ≠ e → _ → (if 8 * c + e = 8 * a + b then x else F (8 * c + e)) = 1) ∧ (c ≠ e → _ → (if 8 * c + e = 8 * a + b then x else F (8 * c + e)) = 1000)
      by_cases q : c = a ∧ e = b
      · rw [if_pos (by omega), hx]
        refine ⟨fun w => by rw [if_pos (by omega)], fun w _ => by rw [if_neg (by omega)], fun w n => absurd (Or.inr q) n⟩
      · rw [if_neg (by omega)]
        exact ⟨h1, fun w n => h2 w (n.resolve_right q), fun w n => h3 w (fun z => n (Or.inl z))⟩
  exact ⟨fun z => ⟨by omega, (by first | rfl | trivial), st 1 (by rw [if_neg z]), Fr.I rfl⟩, fun z => ⟨by omega, (by first | rfl | trivial), st 0 (by rw [if_pos z]), Fr.I rfl⟩⟩
end FLOYD
