def Sst (w o k : Nat) : Prop := (o = 133 ∧ 60 * w ≤ k ∧ k < 60 * w + 60) ∨ (o = 134 ∧ k = w) ∨ (o = 123 ∧ k = 16)
def SP (w o k : Nat) : Prop := SM o k ∨ Sst w o k
theorem SP_up {w o k : Nat} (h : SP w o k) : SQ o k := by unfold SP SM Sst at h; unfold SQ; omega
theorem Sst_up {w o k : Nat} (h : Sst w o k) : SP w o k := Or.inr h
section PAPERM
variable {E : EV} {μ ν : Mem} {tn : Nat → Nat} {tb : Nat → Nat → Nat} {S : Nat} {L : LD} {g m : Nat} {p : PA}
theorem ML.frS {T : Nat → Nat → Prop} (h : ML μ L) (hf : Fr T μ ν) (h1 : ¬ T 123 8) (h2 : ¬ T 123 12) (h3 : ∀ k, ¬ T 130 k ∧ ¬ T 131 k ∧ ¬ T 132 k) : ML ν L :=
  h.fr (hf _ _ h1).1 (hf _ _ h2).1 (funext fun k => (hf _ _ (h3 k).1).1) (funext fun k => (hf _ _ (h3 k).2.1).1) (funext fun k => (hf _ _ (h3 k).2.2).1)
theorem ML.frst {w : Nat} (h : ML μ L) (hf : Fr (Sst w) μ ν) : ML ν L := h.frS hf (by unfold Sst; omega) (by unfold Sst; omega) (fun k => by unfold Sst; omega)
/-- a stamp that strikes -/
abbrev Stk (L : LD) (p : PA) (l : Nat) : Prop := lW L l = true ∧ 0 < p.1 ∧ p.2 (p.1 - 1) = bk l
theorem cM_stamp {w l : Nat} (hw : w < 2) (hC : ML μ L) (hP : PMd μ w p) (hk : Pok L.1 m p) (hm : m < 60) (hl : l < 2 * L.1) : Sp E MX11_stamp [.ref 123, .int (nI w), .int (nI l)] μ (fun v ν => v = none ∧ (PMd ν w (stA L p l) ∧ Fr (Sst w) μ ν ∧ ν.1 123 16 = (if Stk L p l then μ.1 123 16 + 1 else μ.1 123 16))) := by
  obtain ⟨k1, k2⟩ := hk
  have hg := hC.1
  have hb := bk_lt hl
  obtain ⟨q1, q2, q3, q4, q5⟩ := hC.2.2.2.2.2 (l / 2) (by omega)
  refine Sp.go rfl rfl rfl (gX11_stamp_0 ?_)
  simp (disch := omega) only [n_divc, n_in, nI_clamp]
  rw [q5]
  refine ⟨by omega, fun c => ?_, fun c => ?_⟩
  · have hW : lW L l = true := by
      unfold lW
      cases hq : L.2.2.2.1 (l / 2)
      · rw [hq] at c; exact absurd rfl c
      · rfl
    refine ⟨hw, fun v4 e4 => ?_⟩
    rw [hP.1] at e4
    subst e4
    have push : ∀ (hns : ¬ (0 < p.1 ∧ p.2 (p.1 - 1) = bk l)) (v : Int32), v = (mI μ 133 (60 * w + p.1) (nI l)).1 134 w + 1 → (none : Option Value) = none ∧ (PMd (mI (mI μ 133 (60 * w + p.1) (nI l)) 134 w v) w (stA L p l) ∧ Fr (Sst w) μ (mI (mI μ 133 (60 * w + p.1) (nI l)) 134 w v) ∧ (mI (mI μ 133 (60 * w + p.1) (nI l)) 134 w v).1 123 16 = (if Stk L p l then μ.1 123 16 + 1 else μ.1 123 16)) := by
      intro hns v e
      rw [rd1 (by omega), hP.1, nI_1] at e
      subst e
      refine ⟨rfl, ?_, Fr.tr (Fr.I (by unfold Sst; omega)) (Fr.I (by unfold Sst; omega)), ?_⟩
      · unfold stA stR
        rw [if_pos hW, if_neg hns]
        refine ⟨rde, fun i hi => ?_⟩
        rw [rd1 (by omega)]
        dsimp only [up] at hi ⊢
        by_cases e : i = p.1
        · rw [if_pos e, e, rde]
        · rw [if_neg e, rd2 (by omega)]; exact hP.2 i (by omega)
      · rw [if_neg (fun z => hns z.2), rd1 (by omega), rd1 (by omega)]
    simp (disch := omega) only [n_le0, n_cmul, nI_add, n_in, nI_clamp]
    refine ⟨fun z => ⟨by omega, fun v7 e7 => ⟨trivial, (push (by omega) v7 e7).2⟩⟩, fun z => ?_⟩
    rw [show nI (60 * w + p.1) - 1 = nI (60 * w + p.1 - 1) from pk_sub (b := 1) (by omega)]
    simp (disch := omega) only [n_in, nI_clamp]
    refine ⟨by omega, Rt.i (cM_back (by omega)) ?_⟩
    have e5 := hP.2 (p.1 - 1) (by omega)
    have e6 := k2 (p.1 - 1) (by omega)
    rw [show 60 * w + p.1 - 1 = 60 * w + (p.1 - 1) by omega, e5]
    simp (disch := omega) only [n_eq]
    refine ⟨fun z2 => ⟨by omega, fun v13 e13 => ⟨trivial, (push (by omega) v13 e13).2⟩⟩, fun z2 v14 e14 v15 e15 => ?_⟩
    rw [hP.1, show nI p.1 - 1 = nI (p.1 - 1) from pk_sub (b := 1) (by omega)] at e14
    subst e14
    refine ⟨(by first | rfl | trivial), ?_, Fr.tr (Fr.I (by unfold Sst; omega)) (Fr.I (by unfold Sst; omega)), ?_⟩
    · unfold stA stR
      rw [if_pos hW, if_pos ⟨by omega, z2⟩]
      refine ⟨by rw [rd1 (by omega), rde], fun i hi => ?_⟩
      dsimp only at hi
      rw [rd1 (by omega), rd1 (by omega)]
      exact hP.2 i (by omega)
    · rw [rde, e15, rd1 (by omega), if_pos ⟨hW, by omega, z2⟩]
  · have hW : ¬ lW L l = true := by
      unfold lW
      cases hq : L.2.2.2.1 (l / 2)
      · simp
      · rw [hq] at c; exact absurd c (by decide)
    refine ⟨(by first | rfl | trivial), ?_, Fr.rf, ?_⟩
    · unfold stA
      rw [if_neg hW]
      exact hP
    · rw [if_neg (fun z => hW z.1)]
theorem RC.frM (h : RC μ tn tb S) (hf : Fr SM μ ν) : RC ν tn tb S := h.fr (hf.up (fun _ _ => SM_up))
theorem RC.frPw {w : Nat} (h : RC μ tn tb S) (hf : Fr (SP w) μ ν) : RC ν tn tb S := h.fr (hf.up (fun _ _ => SP_up))
theorem RC.rlM (h : RC μ tn tb S) : Sp E MX11_readsLand [.ref 123] μ (fun v m => ∃ r, v = some (.int r) ∧ (r = oI (land (tn 0) (tb 0)).1 ∧ ML m (LN tn tb) ∧ Fr SM μ m)) := by
  obtain ⟨h1, h2, h3, h4, h5⟩ := h.1 0 (by decide)
  exact cM_readsLand h4 h2 h1
theorem cM_faultOfM {t : Nat} (ht : t < 4) (h0 : ¬ t = 0) (h : RC μ tn tb S) : Sp E MX11_faultOf [.ref 123, .int (nI t)] μ (fun v m => ∃ r, v = some (.int r) ∧ (r = oI (wf (LN tn tb).1 (tn t) (tb t)) ∧ ML m (LN tn tb) ∧ Fr SM μ m)) := by
  refine Sp.go rfl rfl rfl (gX11_faultOf_0 (Sp.i h.rlM (fun r m hm => ?_)))
  obtain ⟨hr, hML, hf⟩ := hm
  have hRC := h.frM hf
  simp (disch := omega) only [n_eq0]
  refine ⟨fun q => ?_, fun q => absurd q h0⟩
  obtain ⟨h1, h2, h3, h4, h5⟩ := hRC.1 t ht
  have hc := cap_le t
  have key : ∀ d k, k + d = tn t → wfu (LN tn tb).1 (tb t) d k = wf (LN tn tb).1 (tn t) (tb t) → Ex E MX11_faultOf (fun v m => ∃ r, v = some (.int r) ∧ (r = oI (wf (LN tn tb).1 (tn t) (tb t)) ∧ ML m (LN tn tb) ∧ Fr SM μ m)) 13 [(0, .ref 123), (1, .int (nI t)), (2, .int r), (3, .int (nI k))] [] m := by
    intro d
    induction d with
    | zero =>
      intro k hk0 hw
      refine gX11_faultOf_13 ?_
      simp (disch := omega) only [n_in, nI_clamp]
      rw [h4.1]
      simp (disch := omega) only [n_le]
      refine ⟨ht, fun _ => ⟨_, rfl, by rw [← hw]; rfl, hML, hf⟩, fun q => by omega⟩
    | succ d ih =>
      intro k hk0 hw
      refine gX11_faultOf_13 ?_
      simp (disch := omega) only [n_in, nI_clamp]
      rw [h4.1]
      simp (disch := omega) only [n_le]
      refine ⟨ht, fun q => by omega, fun _ => Rt.i (cM_from ht) ?_⟩
      have ho := offT_le ht (show k < cap t by omega)
      simp (disch := omega) only [nI_add, n_in, nI_clamp]
      refine ⟨ho, ?_⟩
      rw [h4.2 k (by omega)]
      refine Rt.i (cM_letterOf hML _) ?_
      rw [nI_toInt (by have := h2 k (by omega); omega), oI_none hML.1]
      have hw' : (if lo (LN tn tb).1 (tb t k) = none then some k else wfu (LN tn tb).1 (tb t) d (k + 1)) = wf (LN tn tb).1 (tn t) (tb t) := hw
      refine ⟨fun q v9 e9 => ?_, fun q => ?_⟩
      · rw [if_neg q] at hw'
        rw [e9, nI_1]
        exact ih (k + 1) (by omega) hw'
      · rw [if_pos q] at hw'
        exact ⟨_, rfl, by rw [← hw']; rfl, hML, hf⟩
  exact key (tn t) 0 (by omega) rfl
theorem wf_lt {g n : Nat} {b : Nat → Nat} {k : Nat} (h : wf g n b = some k) : k < n := by
  have wle : ∀ d k j, wfu g b d k = some j → j < k + d := by
    intro d
    induction d with
    | zero => intro k j hj; cases hj
    | succ d ih =>
      intro k j hj
      unfold wfu at hj
      split at hj
      · cases hj; omega
      · have := ih _ _ hj; omega
  have := wle n 0 k h
  omega
/-- how many letters a way has -/
def nW (L : LD) (tn : Nat → Nat) (tb : Nat → Nat → Nat) (t : Nat) : Nat := if t = 0 ∨ ¬ wf L.1 (tn t) (tb t) = none then 0 else tn t
theorem cM_lengthOf {t : Nat} (ht : t < 4) (h0 : ¬ t = 0) (h : RC μ tn tb S) : Sp E MX11_lengthOf [.ref 123, .int (nI t)] μ (fun v ν => ∃ r, v = some (.int r) ∧ (r = nI (nW (LN tn tb) tn tb t) ∧ ML ν (LN tn tb) ∧ Fr SM μ ν)) := by
  refine Sp.go rfl rfl rfl (gX11_lengthOf_0 (Sp.i (cM_faultOfM ht h0 h) (fun r m hm => ?_)))
  obtain ⟨hr, hML, hf⟩ := hm
  obtain ⟨h1, h2, h3, h4, h5⟩ := (h.frM hf).1 t ht
  have hc := cap_le t
  rw [hr, oI_m1 _ (fun k hk => by have := wf_lt hk; omega)]
  simp (disch := omega) only [n_in, nI_clamp]
  unfold nW
  refine ⟨fun q => ⟨_, rfl, by rw [if_pos (Or.inr q)]; rfl, hML, hf⟩, fun q => ⟨ht, _, rfl, ?_, hML, hf⟩⟩
  rw [if_neg (fun z => z.elim h0 (fun z => z q)), h4.1]
theorem cM_letterAt {t k : Nat} (ht : t < 4) (h : RC μ tn tb S) (hC : ML μ (LN tn tb)) (hk : k < nW (LN tn tb) tn tb t) : Rt E MX11_letterAt [.ref 123, .int (nI t), .int (nI k)] μ (some (.int (nI (ltr (LN tn tb).1 (tb t) k)))) μ := by
  obtain ⟨h1, h2, h3, h4, h5⟩ := h.1 t ht
  have hc := cap_le t
  unfold nW at hk
  split at hk
  · omega
  rename_i q
  have q2 : wf (LN tn tb).1 (tn t) (tb t) = none := by
    cases hq : wf (LN tn tb).1 (tn t) (tb t) with
    | none => rfl
    | some k => exact absurd (Or.inr (by rw [hq]; simp)) q
  have ho := offT_le ht (show k < cap t by omega)
  refine Sp.go rfl rfl rfl (gX11_letterAt_0 (Rt.i (cM_from ht) ?_))
  simp (disch := omega) only [nI_add, n_in, nI_clamp]
  refine ⟨ho, ?_⟩
  rw [h4.2 k hk]
  refine Rt.i (cM_letterOf hC _) ⟨?_, rfl⟩
  rw [nI_toInt (by have := h2 k hk; omega), (ltr_some q2 hk).1]
  rfl
theorem PW_eq {t : Nat} : PW L tn tb t = pw L (tb t) (nW L tn tb t) := by
  unfold PW nW
  split <;> rfl
theorem nW_ltr {t k : Nat} (hk : k < nW L tn tb t) : ltr L.1 (tb t) k < 2 * L.1 ∧ Pok L.1 k (pw L (tb t) k) := by
  unfold nW at hk
  split at hk
  · omega
  rename_i q
  have q2 : wf L.1 (tn t) (tb t) = none := by
    cases hq : wf L.1 (tn t) (tb t) with
    | none => rfl
    | some k => exact absurd (Or.inr (by rw [hq]; simp)) q
  exact ⟨(ltr_some q2 hk).2, pw_ok q2 k (by omega)⟩
theorem nW_le (h : RC μ tn tb S) {t : Nat} (ht : t < 4) : nW L tn tb t ≤ 30 := by
  obtain ⟨h1, -⟩ := h.1 t ht
  unfold nW
  split
  · omega
  · rename_i q
    unfold cap at h1
    rw [if_neg (fun z => q (Or.inl z))] at h1
    exact h1
theorem PMd.fr {w : Nat} {T : Nat → Nat → Prop} (hP : PMd μ w p) (hp : p.1 ≤ 60) (hf : Fr T μ ν) (h1 : ¬ T 134 w) (h2 : ∀ k, 60 * w ≤ k → k < 60 * w + 60 → ¬ T 133 k) : PMd ν w p := by
  refine ⟨?_, fun i hi => ?_⟩
  · rw [(hf _ _ h1).1]; exact hP.1
  · rw [(hf _ _ (h2 _ (by omega) (by omega))).1]; exact hP.2 i hi
theorem SM_SP {w o k : Nat} (h : SM o k) : SP w o k := Or.inl h
theorem cM_findPaper {w t : Nat} (hw : w < 2) (ht : t < 4) (h : RC μ tn tb S) : Sp E MX11_findPaper [.ref 123, .int (nI w), .int (nI t)] μ (fun v ν => v = none ∧ (PMd ν w (PW (LN tn tb) tn tb t) ∧ ML ν (LN tn tb) ∧ Fr (SP w) μ ν)) := by
  refine Sp.go rfl rfl rfl (gX11_findPaper_0 (Sp.i h.rlM (fun r m hm => ?_)))
  obtain ⟨hr, hML, hf⟩ := hm
  simp (disch := omega) only [n_in, nI_clamp, n_eq0]
  refine ⟨hw, ?_⟩
  generalize hν : mI m 134 w 0 = ν
  have fν : Fr (SP w) μ ν := by
    rw [← hν]
    exact Fr.tr (hf.up (fun _ _ => SM_SP)) (Fr.I (by unfold SP Sst; omega))
  have mν : ML ν (LN tn tb) := by
    rw [← hν]
    exact hML.fr rfl rfl rfl rfl rfl
  have pν : PMd ν w p0 := by
    rw [← hν]
    exact ⟨rde, fun i hi => absurd hi (Nat.not_lt_zero i)⟩
  have rν : RC ν tn tb S := h.frPw fν
  rw [PW_eq]
  have hn := nW_le (L := LN tn tb) h ht
  have loop : ∀ ξ : Mem, PMd ξ w p0 → ML ξ (LN tn tb) → Fr (SP w) μ ξ → Ex E MX11_findPaper (fun v ν => v = none ∧ (PMd ν w (pw (LN tn tb) (tb t) (nW (LN tn tb) tn tb t)) ∧ ML ν (LN tn tb) ∧ Fr (SP w) μ ν)) 29 [(0, .ref 123), (1, .int (nI w)), (2, .int (nI t)), (3, .int (nI (nW (LN tn tb) tn tb t))), (4, .int 0)] [] ξ := by
    intro ξ0 a1 a2 a3
    refine lup (σ := Mem) (J := fun i ξ => Ex E MX11_findPaper _ 29 [(0, .ref 123), (1, .int (nI w)), (2, .int (nI t)), (3, .int (nI (nW (LN tn tb) tn tb t))), (4, .int (nI i))] [] ξ) (I := fun i ξ => PMd ξ w (pw (LN tn tb) (tb t) i) ∧ ML ξ (LN tn tb) ∧ Fr (SP w) μ ξ) (nW (LN tn tb) tn tb t) ?_ ?_ 0 ξ0 (Nat.zero_le _) ⟨a1, a2, a3⟩
    · intro i ξ hi hξ ih
      refine gX11_findPaper_29 ?_
      simp (disch := omega) only [n_le]
      refine ⟨fun c => by omega, fun _ => Rt.i (cM_letterAt ht (h.frPw hξ.2.2) hξ.2.1 hi) ?_⟩
      obtain ⟨l1, l2⟩ := nW_ltr hi
      refine Sp.v (cM_stamp hw hξ.2.1 hξ.1 l2 (by omega) l1) (fun m4 hm v5 e5 => ?_)
      rw [e5, nI_1]
      exact ih _ ⟨hm.1, hξ.2.1.frst hm.2.1, Fr.tr hξ.2.2 (hm.2.1.up (fun _ _ => Sst_up))⟩
    · intro ξ hξ
      refine gX11_findPaper_29 ?_
      simp (disch := omega) only [n_le]
      exact ⟨fun _ => ⟨(by first | rfl | trivial), hξ⟩, fun c => absurd (Nat.le_refl _) c⟩
  refine ⟨fun q => Sp.i (cM_lengthOf ht q rν) (fun r m5 hm5 => ?_), fun q => ?_⟩
  · rw [hm5.1]
    exact loop m5 (pν.fr (Nat.zero_le _) hm5.2.2 (by unfold SM; omega) (fun k _ _ => by unfold SM; omega)) hm5.2.1 (Fr.tr fν (hm5.2.2.up (fun _ _ => SM_SP)))
  · have e : nW (LN tn tb) tn tb t = 0 := by unfold nW; rw [if_pos (Or.inl q)]
    have := loop ν pν mν fν
    rw [e] at this ⊢
    exact this
end PAPERM
