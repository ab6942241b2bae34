section ERRANDS
variable {E : EV} {μ ν : Mem} {L : LD} {S h s : Nat} {tn : Nat → Nat} {tb : Nat → Nat → Nat}
noncomputable def sTk (L : LD) (S h t : Nat) : Nat → Nat → Nat
  | 0, _ => 1000
  | d + 1, k => if eV L S h k t < 1000 then k else sTk L S h t d (k + 1)
noncomputable def sTo (L : LD) (S h t : Nat) : Nat := sTk L S h t 12 0
theorem sTk_ok {t : Nat} : ∀ d k, k + d = 12 → sTk L S h t d k ≤ 1000 ∧ ∀ R, R ≤ 11 → (∀ j, j < k → ¬ eV L S h j t < 1000) → (sTk L S h t d k ≤ R ↔ eV L S h R t < 1000)
  | 0, k, hk => ⟨Nat.le_refl _, fun R hR hj => ⟨fun w => by have w : 1000 ≤ R := w; omega, fun w => absurd w (hj R (by omega))⟩⟩
  | d + 1, k, hk => by
    obtain ⟨i1, i2⟩ := sTk_ok (t := t) d (k + 1) (by omega)
    have e : sTk L S h t (d + 1) k = if eV L S h k t < 1000 then k else sTk L S h t d (k + 1) := rfl
    rw [e]
    by_cases c : eV L S h k t < 1000
    · rw [if_pos c]
      refine ⟨by omega, fun R hR hj => ⟨fun w => ?_, fun w => ?_⟩⟩
      · have := eV_anti (L := L) (S := S) (h := h) (s := k) (t := t) (R - k)
        rw [show k + (R - k) = R by omega] at this
        omega
      · by_cases q : k ≤ R
        · exact q
        · exact absurd w (hj R (by omega))
    · rw [if_neg c]
      refine ⟨i1, fun R hR hj => i2 R hR (fun j hj' => ?_)⟩
      by_cases q : j = k
      · rw [q]; exact c
      · exact hj j (by omega)
theorem sTo_ok {t R : Nat} (hR : R ≤ 11) : sTo L S h t ≤ R ↔ eV L S h R t < 1000 := (sTk_ok 12 0 rfl).2 R hR (fun j hj => by omega)
theorem sTo_le {t : Nat} : sTo L S h t ≤ 1000 := (sTk_ok 12 0 rfl).1
def GVm (m : Mem) (L : LD) (S h : Nat) : Prop := ∀ s t, s < 12 → t < 8 → m.1 138 (8 * s + t) = nI (eV L S h s t)
theorem cM_stampsTo {t : Nat} (hG : GVm μ L S h) (ht : t < 8) : Rt E MX11_stampsTo [.ref 123, .int (nI t)] μ (some (.int (nI (sTo L S h t)))) μ := by
  refine Sp.go rfl rfl rfl (gX11_stampsTo_0 ?_)
  have key : ∀ d k, k + d = 12 → sTk L S h t d k = sTo L S h t → Ex E MX11_stampsTo (fun v' ν' => v' = some (.int (nI (sTo L S h t))) ∧ ν' = μ) 2 [(0, .ref 123), (1, .int (nI t)), (2, .int (nI k))] [] μ := by
    intro d
    induction d with
    | zero =>
      intro k hk e
      refine gX11_stampsTo_2 ?_
      rw [n_clt (by omega) (by decide)]
      refine ⟨fun _ => ⟨by rw [← e]; rfl, rfl⟩, fun z => absurd (show 11 < k by omega) z⟩
    | succ d ih =>
      intro k hk e
      have v1 := (eV_spec L S h k t).1
      have e' : (if eV L S h k t < 1000 then k else sTk L S h t d (k + 1)) = sTo L S h t := e
      refine gX11_stampsTo_2 ?_
      simp (disch := omega) only [n_clt, n_cmul, nI_add, n_in, nI_clamp]
      rw [hG k t (by omega) ht, n_cle (by omega) (by decide)]
      refine ⟨fun z => by omega, fun _ => ⟨by omega, fun z v4 e4 => ?_, fun z => ⟨?_, by first | rfl | trivial⟩⟩⟩
      · have z : 1000 ≤ eV L S h k t := z
        rw [if_neg (by omega)] at e'
        rw [e4, n_addc]
        exact ih (k + 1) (by omega) e'
      · have z : ¬ 1000 ≤ eV L S h k t := z
        rw [if_pos (by omega)] at e'
        rw [← e']
  exact key 12 0 rfl rfl
noncomputable def flM (L : LD) (S h T : Nat) : Nat → Nat
  | 0 => 0
  | k + 1 => if T.testBit k = true then max (flM L S h T k) (sTo L S h k) else flM L S h T k
theorem flM_le {T : Nat} : ∀ k, flM L S h T k ≤ 1000
  | 0 => Nat.zero_le _
  | k + 1 => by
    have := flM_le (T := T) k
    have := sTo_le (L := L) (S := S) (h := h) (t := k)
    unfold flM
    split <;> omega
theorem flM_ok {T R : Nat} (hR : R ≤ 11) : ∀ k, flM L S h T k ≤ R ↔ ∀ t, t < k → T.testBit t = true → eV L S h R t < 1000
  | 0 => ⟨fun _ t ht => by omega, fun _ => Nat.zero_le _⟩
  | k + 1 => by
    have ih := flM_ok (T := T) hR k
    have st := sTo_ok (L := L) (S := S) (h := h) (t := k) hR
    unfold flM
    constructor
    · intro w t ht b
      by_cases c : t = k
      · subst c
        rw [if_pos b] at w
        exact st.1 (by omega)
      · refine ih.1 ?_ t (by omega) b
        split at w <;> omega
    · intro w
      have a := ih.2 (fun t ht b => w t (by omega) b)
      split
      · rename_i b
        have := st.2 (w k (by omega) b)
        omega
      · exact a
noncomputable def erV (L : LD) (S h T w : Nat) : Int32 := if flM L S h T 8 ≤ L.2.2.2.2 then nI (if w = 0 then flM L S h T 8 else 2 * eSm L S h (flM L S h T 8) T 8) else -1
theorem cM_errandsOf {T w : Nat} (hR : RC μ tn tb S) (hh : h < 8) (hT : T < 256) (hw : w < 2) : Sp E MX11_errandsOf [.ref 123, .int (nI h), .int (nI T), .int (nI w)] μ (fun v ν => ∃ r, v = some (.int r) ∧ (r = erV (LN tn tb) S h T w ∧ Fr SQ μ ν)) := by
  refine Sp.go rfl rfl rfl (gX11_errandsOf_0 (Sp.v (cM_findErrands hR hh) (fun m h1 => ?_)))
  obtain ⟨G, M, F⟩ := h1
  have G : GVm m (LN tn tb) S h := G
  generalize LN tn tb = L at *
  have hRm := M.2.2.1
  have fl8 := flM_le (L := L) (S := S) (h := h) (T := T) 8
  have steps : flM L S h T 8 ≤ L.2.2.2.2 → ∀ n k, k + n = 8 → Ex E MX11_errandsOf (fun v ν => ∃ r, v = some (.int r) ∧ (r = erV L S h T w ∧ Fr SQ μ ν)) 87 [(0, .ref 123), (1, .int (nI h)), (2, .int (nI T)), (3, .int (nI w)), (4, .int (nI (flM L S h T 8))), (5, .int (nI (2 * eSm L S h (flM L S h T 8) T k))), (6, .int (nI k))] [] m := by
    intro hle n
    induction n with
    | zero =>
      intro k hk
      have : k = 8 := by omega
      subst this
      refine gX11_errandsOf_87 ⟨fun _ => ?_, fun z => absurd (by decide) z⟩
      rw [n_eq0 (by omega)]
      unfold erV
      rw [if_pos hle]
      exact ⟨fun z => ⟨_, rfl, by rw [if_neg z], F⟩, fun z => ⟨_, rfl, by rw [if_pos z], F⟩⟩
    | succ n ih =>
      intro k hk
      have nx := ih (k + 1) (by omega)
      have e : eSm L S h (flM L S h T 8) T (k + 1) = if T.testBit k = true then eSm L S h (flM L S h T 8) T k + eV L S h (flM L S h T 8) k else eSm L S h (flM L S h T 8) T k := rfl
      have inner : ∀ d j x, j + d = flM L S h T 8 + 1 → x ≤ 1000 → (∀ i, j = i + 1 → x = eV L S h i k) → (j = 0 → x = 1000) → Ex E MX11_errandsOf (fun v ν => ∃ r, v = some (.int r) ∧ (r = erV L S h T w ∧ Fr SQ μ ν)) 102 [(0, .ref 123), (1, .int (nI h)), (2, .int (nI T)), (3, .int (nI w)), (4, .int (nI (flM L S h T 8))), (5, .int (nI (2 * eSm L S h (flM L S h T 8) T k))), (6, .int (nI k)), (7, .int (nI x)), (8, .int (nI j))] [] m := by
        intro d
        induction d with
        | zero =>
          intro j x hj hx h1 h2
          refine gX11_errandsOf_102 ?_
          rw [n_lt (by omega) (by omega), bitT hT (by omega), n_cmul, nI_add]
          have ex := h1 (flM L S h T 8) (by omega)
          refine ⟨fun _ => ⟨fun z v3 e3 v4 e4 => ?_, fun z v5 e5 v6 e6 => ?_⟩, fun z => by omega⟩
          · rw [e3, e4, n_addc, n_addc]
            rw [e, if_neg z] at nx
            exact nx
          · rw [e5, e6, n_addc, ex]
            rw [e, if_pos z, Nat.mul_add] at nx
            exact nx
        | succ d ihd =>
          intro j x hj hx h1 h2
          have vj := (eV_spec L S h j k).1
          refine gX11_errandsOf_102 ?_
          simp (disch := omega) only [n_lt, n_cmul, nI_add, n_in, nI_clamp]
          rw [G j k (by omega) (by omega), n_le (by omega) (by omega)]
          have mono : eV L S h j k ≤ x := by
            cases j with
            | zero => rw [h2 rfl]; exact vj
            | succ i => rw [h1 i rfl]; exact eV_mono
          refine ⟨fun z => by omega, fun _ => ⟨by omega, fun z v9 e9 => ?_, fun z v10 e10 v11 e11 => ?_⟩⟩
          · rw [e9, n_addc]
            refine ihd (j + 1) x (by omega) hx (fun i hi => ?_) (fun w => by omega)
            have : i = j := by omega
            subst this
            omega
          · rw [e10, e11, n_addc]
            refine ihd (j + 1) (eV L S h j k) (by omega) vj (fun i hi => ?_) (fun w => by omega)
            have : i = j := by omega
            rw [this]
      refine gX11_errandsOf_87 ?_
      rw [n_cle (by omega) (by decide)]
      exact ⟨fun z => absurd (show 8 ≤ k from z) (by omega), fun _ => inner (flM L S h T 8 + 1) 0 1000 (by omega) (by omega) (fun i hi => by omega) (fun _ => rfl)⟩
  have full : ∀ n k, k + n = 8 → Ex E MX11_errandsOf (fun v ν => ∃ r, v = some (.int r) ∧ (r = erV L S h T w ∧ Fr SQ μ ν)) 11 [(0, .ref 123), (1, .int (nI h)), (2, .int (nI T)), (3, .int (nI w)), (4, .int (nI (flM L S h T k))), (5, .int (nI k))] [] m := by
    intro n
    induction n with
    | zero =>
      intro k hk
      have : k = 8 := by omega
      subst this
      refine gX11_errandsOf_11 ⟨fun _ => ?_, fun z => absurd (by decide) z⟩
      rw [M.2.2.2.2.1, n_le (by omega) (by omega)]
      refine ⟨fun z => steps z 8 0 rfl, fun z => ⟨_, rfl, by unfold erV; rw [if_neg z], F⟩⟩
    | succ n ih =>
      intro k hk
      have nx := ih (k + 1) (by omega)
      have e : flM L S h T (k + 1) = if T.testBit k = true then max (flM L S h T k) (sTo L S h k) else flM L S h T k := rfl
      have f1 := flM_le (L := L) (S := S) (h := h) (T := T) k
      have f2 := sTo_le (L := L) (S := S) (h := h) (t := k)
      refine gX11_errandsOf_11 ?_
      rw [n_cle (by omega) (by decide), bitT hT (by omega)]
      refine ⟨fun z => absurd (show 8 ≤ k from z) (by omega), fun _ => ⟨fun z v4 e4 => ?_, fun z => Rt.i (cM_stampsTo G (by omega)) ?_⟩⟩
      · rw [e4, n_addc]
        rw [e, if_neg z] at nx
        exact nx
      · rw [n_le (by omega) (by omega)]
        rw [e, if_pos z] at nx
        refine ⟨fun z2 v8 e8 => ?_, fun z2 => Rt.i (cM_stampsTo G (by omega)) (fun v11 e11 => ?_)⟩
        · rw [e8, n_addc]
          rw [Nat.max_eq_left z2] at nx
          exact nx
        · rw [e11, n_addc]
          rw [Nat.max_eq_right (by omega)] at nx
          exact nx
  exact full 8 0 rfl
theorem cX_errands {T w : Nat} (hR : RC μ tn tb S) (hh : h < 8) (hT : T < 256) (hw : w < 2) : Sp E MX10_errands [.ref 0, .int (nI h), .int (nI T), .int (nI w)] μ (fun v ν => ∃ r, v = some (.int r) ∧ (r = erV (LN tn tb) S h T w ∧ Fr SQ μ ν)) := by
  have h01 := x01 hw rfl
  have hRm := hR.2.1.2.2.1
  refine Sp.go rfl rfl rfl (gX10_errands_0 (Rt.i (cX_isTown _) ⟨fun z => ?_, fun _ => ?_⟩))
  · rw [b2_0, Rg.nI (by omega)] at z
    omega
  rw [n_lt0 (by omega), n_clt (by omega) (by decide)]
  refine ⟨fun z => z.elim, fun _ => ⟨fun z => absurd (show 255 < T from z) (by omega), fun _ => ⟨fun z => absurd z h01.1, fun _ => ⟨fun _ => Sp.i (cE_fullest hR.2.1 hR.2.2.2.1 hR.2.2.2.2.1 hh hT) (fun r m hm => ?_), fun z => absurd h01.2 z⟩⟩⟩⟩
  obtain ⟨fl, fr⟩ := hm
  have F := fr.up (T := SQ) (fun _ _ => SEr_SQ)
  generalize LN tn tb = L at *
  rw [n_eq0 (by omega)]
  have ok : ∀ R, R ≤ 11 → (flM L S h T 8 ≤ R ↔ eOk L S h T R) := fun R hR => flM_ok hR 8
  unfold erV
  rcases fl with ⟨s, s1, s2, s3, s4, s5⟩ | ⟨s1, s2⟩
  · have e : flM L S h T 8 = s := by
      have a := (ok s (by omega)).2 s2
      by_cases c : flM L S h T 8 < s
      · exact absurd ((ok _ (by omega)).1 (Nat.le_refl _)) (s3 _ c)
      · omega
    rw [e, if_pos s1, s4]
    have sm := eSm_le (L := L) (S := S) (h := h) (s := s) (T := T) 8
    refine ⟨fun z => ⟨_, rfl, by rw [if_pos z], F⟩, fun z => ⟨fun z2 => Rt.i (cE_stepsTo s5 hT) ⟨_, rfl, by rw [if_neg z, n_cmul], F⟩, fun z2 => absurd z2 (ng_m1 (by omega))⟩⟩
  · have n : ¬ flM L S h T 8 ≤ L.2.2.2.2 := fun w => s1 _ (Nat.le_refl _) ((ok _ hRm).1 w)
    rw [if_neg n, s2]
    exact ⟨fun z => ⟨_, rfl, rfl, F⟩, fun z => ⟨fun z2 => absurd rfl z2, fun _ => ⟨_, rfl, rfl, F⟩⟩⟩
theorem cM_cleanOf (hR : RC μ tn tb S) (hh : h < 8) : Sp E MX11_cleanOf [.ref 123, .int (nI h)] μ (fun v ν => ∃ r, v = some (.int r) ∧ (r = nI (eRc (LN tn tb) S h (LN tn tb).2.2.2.2) ∧ Fr SQ μ ν)) := by
  refine Sp.go rfl rfl rfl (gX11_cleanOf_0 (Sp.v (cM_findErrands hR hh) (fun m h1 => ?_)))
  obtain ⟨G, M, F⟩ := h1
  have G : GVm m (LN tn tb) S h := G
  generalize LN tn tb = L at *
  have hRm := M.2.2.1
  have key : ∀ n k, k + n = 8 → Ex E MX11_cleanOf (fun v ν => ∃ r, v = some (.int r) ∧ (r = nI (eRc L S h L.2.2.2.2) ∧ Fr SQ μ ν)) 9 [(0, .ref 123), (1, .int (nI h)), (2, .int (nI (wb k (fun t => decide (eV L S h L.2.2.2.2 t < 1000))))), (3, .int (nI k))] [] m := by
    intro n
    induction n with
    | zero =>
      intro k hk
      have : k = 8 := by omega
      subst this
      exact gX11_cleanOf_9 ⟨fun _ => ⟨_, rfl, rfl, F⟩, fun z => absurd (by decide) z⟩
    | succ n ih =>
      intro k hk
      have nx := ih (k + 1) (by omega)
      have st := sTo_ok (L := L) (S := S) (h := h) (t := k) hRm
      have f2 := sTo_le (L := L) (S := S) (h := h) (t := k)
      have w8 := wb8 (fun t => decide (eV L S h L.2.2.2.2 t < 1000)) k (by omega)
      refine gX11_cleanOf_9 ?_
      rw [n_cle (by omega) (by decide)]
      refine ⟨fun z => absurd (show 8 ≤ k from z) (by omega), fun _ => Rt.i (cM_stampsTo G (by omega)) ?_⟩
      rw [M.2.2.2.2.1, n_lt (by omega) (by omega)]
      refine ⟨fun z v5 e5 v6 e6 => ?_, fun z v5 e5 v6 e6 => ?_⟩
      · rw [e5, e6, n_addc, or0 (by omega)]
        rw [wb_f (by rw [decide_eq_true_iff, ← st]; omega)] at nx
        exact nx
      · rw [e5, e6, n_addc, wb_step (by omega)]
        rw [wb_t (by rw [decide_eq_true_iff, ← st]; omega)] at nx
        exact nx
  exact key 8 0 rfl
theorem cX_clean (hR : RC μ tn tb S) (hh : h < 8) : Sp E MX10_clean [.ref 0, .int (nI h)] μ (fun v ν => ∃ r, v = some (.int r) ∧ (r = nI (eRc (LN tn tb) S h (LN tn tb).2.2.2.2) ∧ Fr SQ μ ν)) := by
  refine Sp.go rfl rfl rfl (gX10_clean_0 (Rt.i (cX_isTown _) ⟨fun z => ?_, fun _ => Sp.i (cE_homely hR.2.1 hR.2.2.2.1 hR.2.2.2.2.1 hh) (fun r m hm => ⟨_, rfl, hm.1, hm.2.up (fun _ _ => SEr_SQ)⟩)⟩))
  rw [b2_0, Rg.nI (by omega)] at z
  omega
theorem op_clean (hR : RC μ tn tb S) (x : Int32) : Op E MX10_clean MX11_clean [.int x] μ (fun ν => Fr SQ μ ν) := by
  by_cases c : Rg x 0 7
  · obtain ⟨a, ha, rfl⟩ := Rg.nat (x := x) (b := 7) c
    refine Sp.i (cX_clean hR (by omega)) (fun r m hm => ?_)
    refine Sp.go rfl rfl rfl (gX11_clean_0 (Rt.i (cM_isTown _) ⟨fun z => absurd c (by rw [b2_0] at z; exact z), fun _ => ?_⟩))
    exact Sp.i (cM_cleanOf (hR.fr hm.2) (by omega)) (fun r2 m2 hm2 => ⟨by rw [hm2.1, hm.1], Fr.tr hm.2 hm2.2⟩)
  · refine Sp.go rfl rfl rfl (gX10_clean_0 (Rt.i (cX_isTown _) ⟨fun z => ⟨_, rfl, ?_⟩, fun z => absurd (b2_f c) z⟩))
    exact Sp.go rfl rfl rfl (gX11_clean_0 (Rt.i (cM_isTown _) ⟨fun _ => ⟨rfl, Fr.rf⟩, fun z => absurd (b2_f c) z⟩))
theorem op_errands (hR : RC μ tn tb S) (x y u : Int32) : Op E MX10_errands MX11_errands [.int x, .int y, .int u] μ (fun ν => Fr SQ μ ν) := by
  have in2 : ∀ ν : Mem, Rt E MX11_in [.long (Int32.toInt64 y), .long 0, .long 255] ν (some (.int (b2 (Rg y 0 255)))) ν := fun ν => by
    have := cM_in (E := E) (μ := ν) (Int32.toInt64 y) 0 255
    simp only [Int32.toInt_toInt64] at this
    exact this
  have bad : ¬ (Rg x 0 7 ∧ Rg y 0 255 ∧ Rg u 0 1) → Sp E MX11_errands [.ref 123, .int x, .int y, .int u] μ (fun v' ξ => v' = some (.int (-2)) ∧ Fr SQ μ ξ) := by
    intro hn
    refine Sp.go rfl rfl rfl (gX11_errands_0 (Rt.i (cM_isTown x) ⟨fun _ => ⟨rfl, Fr.rf⟩, fun z => Rt.i (in2 _) ⟨fun _ => ⟨rfl, Fr.rf⟩, fun z2 => Rt.i (cM_isTwo u) ⟨fun _ => ⟨rfl, Fr.rf⟩, fun z3 => ?_⟩⟩⟩))
    rw [b2_0, Decidable.not_not] at z z2 z3
    exact absurd ⟨z, z2, z3⟩ hn
  by_cases c : Rg x 0 7 ∧ Rg y 0 255 ∧ Rg u 0 1
  · obtain ⟨c1, c2, c3⟩ := id c
    obtain ⟨a, ha, rfl⟩ := Rg.nat (x := x) (b := 7) c1
    obtain ⟨T, hT, rfl⟩ := Rg.nat (x := y) (b := 255) c2
    obtain ⟨w, hw, rfl⟩ := rg01n c3
    refine Sp.i (cX_errands hR (by omega) (by omega) hw) (fun r m hm => ?_)
    refine Sp.go rfl rfl rfl (gX11_errands_0 (Rt.i (cM_isTown _) ⟨fun z => absurd c1 (by rw [b2_0] at z; exact z), fun _ => Rt.i (in2 _) ⟨fun z => absurd c2 (by rw [b2_0] at z; exact z), fun _ => Rt.i (cM_isTwo _) ⟨fun z => absurd c3 (by rw [b2_0] at z; exact z), fun _ => ?_⟩⟩⟩))
    exact Sp.i (cM_errandsOf (hR.fr hm.2) (by omega) (by omega) hw) (fun r2 m2 hm2 => ⟨by rw [hm2.1, hm.1], Fr.tr hm.2 hm2.2⟩)
  · have B := bad c
    refine Sp.go rfl rfl rfl (gX10_errands_0 (Rt.i (cX_isTown _) ⟨fun z => ⟨_, rfl, B⟩, fun z => ⟨fun _ => ⟨_, rfl, B⟩, fun z2 => ⟨fun _ => ⟨_, rfl, B⟩, fun z3 => ⟨fun _ => ⟨_, rfl, B⟩, fun z4 => ⟨fun z5 => ?_, fun _ => ⟨_, rfl, B⟩⟩⟩⟩⟩⟩))
    refine absurd ⟨?_, ?_, ?_⟩ c
    · rw [b2_0, Decidable.not_not] at z; exact z
    · rw [i_lt] at z2 z3
      have a : (0 : Int32).toInt = 0 ∧ (255 : Int32).toInt = 255 := by decide
      unfold Rg
      omega
    · rw [i_lt] at z4
      rw [i_le] at z5
      have a : (0 : Int32).toInt = 0 ∧ (1 : Int32).toInt = 1 := by decide
      unfold Rg
      omega
end ERRANDS
