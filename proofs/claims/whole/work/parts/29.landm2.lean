theorem rd1 {μ : Mem} {o k a b : Nat} {x : Int32} (h : a ≠ o) : (mI μ o k x).1 a b = μ.1 a b := by rw [mI_1, if_neg (fun q => h q.1)]
theorem rd2 {μ : Mem} {o k a b : Nat} {x : Int32} (h : b ≠ k) : (mI μ o k x).1 a b = μ.1 a b := by rw [mI_1, if_neg (fun q => h q.2)]
theorem rde {μ : Mem} {o k : Nat} {x : Int32} : (mI μ o k x).1 o k = x := by rw [mI_1, if_pos ⟨rfl, rfl⟩]
section MLAND2
variable {E : EV} {μ : Mem} {n : Nat} {b : Nat → Nat}
theorem tI_sub (hb : ∀ k, k < n → b k < 256) (a : Nat) : (tI n b a - 48).toInt = tA n b a - 48 := by
  have h1 : -1 ≤ tA n b a ∧ tA n b a ≤ 255 := by
    unfold tA
    split
    · rename_i q
      have := hb a q
      omega
    · omega
  rw [Int32.toInt_sub, tI_toInt hb, show (48 : Int32).toInt = 48 by decide]
  apply Int.bmod_eq_of_le <;> omega
theorem cM_isTownT (hb : ∀ k, k < n → b k < 256) (a : Nat) : Rt E MX11_isTown [.int (tI n b a - 48)] μ (some (.int (b2 (isTb (tA n b a))))) μ := by
  have := cM_isTown (E := E) (μ := μ) (tI n b a - 48)
  have e : b2 (Rg (tI n b a - 48) 0 7) = b2 (isTb (tA n b a)) := by
    unfold Rg b2
    rw [tI_sub hb]
    by_cases h : isTb (tA n b a)
    · rw [if_pos h, if_pos (by omega)]
    · rw [if_neg h, if_neg (by omega)]
  rw [e] at this
  exact this
theorem cM_readsPart {L : LD} (hT : TM μ 0 n b) (hb : ∀ k, k < n → b k < 256) (hn : n ≤ 50) (hC : ML μ L) {a : Nat} (ha : a < 1000) (h7 : μ.1 123 7 = nI a) :
    Sp E MX11_readsPart [.ref 123] μ (fun v m => ∃ r, v = some (.int r) ∧ (r = b2 ((pPart n b a L).2.1 = true) ∧ m.1 123 7 = nI (pPart n b a L).1 ∧ ML m (pPart n b a L).2.2 ∧ Fr SM μ m)) := by
  refine Sp.go rfl rfl rfl (gX11_readsPart_0 (Rt.i (cM_here hT hn (by omega) h7) ?_))
  rw [tI_eq hb a (c := 114) (d := 114) (by decide)]
  refine ⟨fun c0 => ?_, fun c0 => ?_⟩
  rotate_left
  · have e : pPart n b a L = pRoom n b a L := if_pos c0
    rw [e]
    refine Sp.i (cM_readsRoom hT hb hn hC ha h7) (fun r m hm => ⟨?_, ⟨_, rfl, hm⟩⟩)
    rw [hm.1]
    exact b2_or
  have e : pPart n b a L = pGate n b a L := if_neg c0
  rw [e]
  obtain ⟨g1, g2, g3, g4, g5, g6⟩ := id hC
  refine Rt.i (cM_here hT hn (by omega) h7) (fun v6 e6 => ?_)
  subst e6
  refine Rt.i (cM_isTownT hb a) ?_
  have bad1 : (¬ isTb (tA n b a) ∨ 9 ≤ L.1) → ∃ r, some (Value.int 0) = some (.int r) ∧ (r = b2 ((pGate n b a L).2.1 = true) ∧ μ.1 123 7 = nI (pGate n b a L).1 ∧ ML μ (pGate n b a L).2.2 ∧ Fr SM μ μ) := by
    intro q
    rw [pGate_b1 q]
    exact ⟨_, rfl, by simp [b2], h7, hC, Fr.rf⟩
  rw [g4, h7]
  rw [h7] at bad1
  simp (disch := omega) only [n_eqc]
  refine ⟨fun c1 => bad1 (Or.inl (by rw [b2_0] at c1; exact c1)), fun c1 => ⟨fun c2 v11 e11 => ?_, fun c2 => bad1 (Or.inr (by omega))⟩⟩
  rw [b2_0, Decidable.not_not] at c1
  have nb : ¬ (¬ isTb (tA n b a) ∨ 9 ≤ L.1) := fun q => q.elim (fun q => q c1) (fun q => by omega)
  rw [nI_1] at e11
  subst e11
  have fr1 : Fr SM μ (mI μ 123 7 (nI (a + 1))) := Fr.I (by unfold SM; omega)
  refine Rt.i (cM_here (hT.fr fr1) hn (a := a + 1) (by omega) rde) (fun v14 e14 => ?_)
  subst e14
  refine Rt.i (cM_isTownT hb (a + 1)) ⟨fun c3 v18 e18 => ?_, fun c3 => ?_⟩
  rotate_left
  · rw [b2_0] at c3
    rw [pGate_b2 nb c3]
    exact ⟨_, rfl, by simp [b2], rde, hC.fr rfl rfl rfl rfl rfl, fr1⟩
  rw [b2_0, Decidable.not_not] at c3
  rw [rde, nI_1] at e18
  subst e18
  obtain ⟨d1, d2, d3⟩ := tI_48 hb (a := a) (by omega)
  obtain ⟨f1, f2, f3⟩ := tI_48 hb (a := a + 1) (by omega)
  rw [d1, f1]
  obtain ⟨-, z1⟩ := tA_lt (n := n) (b := b) (i := a) (by omega)
  obtain ⟨-, z2⟩ := tA_lt (n := n) (b := b) (i := a + 1) (by omega)
  simp (disch := omega) only [rd1, rd2, g4, n_in, nI_clamp]
  refine ⟨by omega, by omega, ?_⟩
  generalize hν : mI (mI (mI (mI μ 123 7 (nI (a + 1))) 123 7 (nI (a + 1 + 1))) 130 L.1 (nI (b a - 48))) 131 L.1 (nI (b (a + 1) - 48)) = ν
  have k2 : ν.1 123 7 = nI (a + 2) := by rw [← hν, rd1 (by omega), rd1 (by omega), rde]
  have k8 : ν.1 123 8 = nI L.1 := by rw [← hν, rd1 (by omega), rd1 (by omega), rd2 (by omega), rd2 (by omega)]; exact g4
  have k12 : ν.1 123 12 = nI L.2.2.2.2 := by rw [← hν, rd1 (by omega), rd1 (by omega), rd2 (by omega), rd2 (by omega)]; exact g5
  have fr2 : Fr SM μ ν := by
    rw [← hν]
    exact Fr.tr (Fr.tr (Fr.tr fr1 (Fr.I (by unfold SM; omega))) (Fr.I (by unfold SM; omega))) (Fr.I (by unfold SM; omega))
  have rows : ∀ (w : Bool) (k : Nat), k < L.1 + 1 → up L.2.1 L.1 (b a - 48) k < 8 ∧ up L.2.2.1 L.1 (b (a + 1) - 48) k < 8 ∧ ν.1 130 k = nI (up L.2.1 L.1 (b a - 48) k) ∧ ν.1 131 k = nI (up L.2.2.1 L.1 (b (a + 1) - 48) k) ∧ (mI ν 132 L.1 (if w then 1 else 0)).1 132 k = if up L.2.2.2.1 L.1 w k then 1 else 0 := by
    intro w k hk
    subst hν
    simp only [mI_1, up]
    by_cases ek : k = L.1
    · subst ek
      simp
      omega
    · have := g6 k (by omega)
      simp [ek]
      grind
  refine Rt.i (cM_here (hT.fr fr2) hn (by omega) k2) ?_
  rw [tI_eq hb (a + 2) (c := 117) (d := 117) (by decide), k2]
  rw [pGate_g nb c3]
  refine ⟨fun c4 => ⟨by omega, ?_⟩, fun c4 => ⟨by omega, ?_⟩⟩
  · have fr3 : Fr SM μ (mI ν 132 L.1 0) := Fr.tr fr2 (Fr.I (by unfold SM; omega))
    refine Rt.i (cM_here (hT.fr fr3) hn (a := a + 2) (by omega) (by rw [rd1 (by omega)]; exact k2)) ?_
    rw [tI_eq hb (a + 2) (c := 117) (d := 117) (by decide)]
    refine ⟨fun q => absurd c4 q, fun _ v30 e30 v31 e31 => ⟨_, rfl, by simp [b2], ?_, ?_, ?_⟩⟩
    · rw [rde, e30, nI_1, if_pos c4]
    · have e31' : v31 = nI (L.1 + 1) := by rw [e31, rd1 (by omega), k8, nI_1]
      subst e31'
      refine ⟨by dsimp only; omega, g2, g3, rde, ?_, fun k hk => ?_⟩
      · rw [rd2 (by omega), rd2 (by omega), rd1 (by omega)]; exact k12
      · have := rows false k hk
        simp only [rd1, rd2, c4] at this ⊢
        simpa [mI_1] using this
    · exact Fr.tr (Fr.tr fr3 (Fr.I (by unfold SM; omega))) (Fr.I (by unfold SM; omega))
  · have fr3 : Fr SM μ (mI ν 132 L.1 1) := Fr.tr fr2 (Fr.I (by unfold SM; omega))
    refine Rt.i (cM_here (hT.fr fr3) hn (a := a + 2) (by omega) (by rw [rd1 (by omega)]; exact k2)) ?_
    rw [tI_eq hb (a + 2) (c := 117) (d := 117) (by decide)]
    refine ⟨fun _ v30 e30 v31 e31 => ⟨_, rfl, by simp [b2], ?_, ?_, ?_⟩, fun q => absurd q c4⟩
    · rw [rde, e30, if_neg c4]
      simp
    · have e31' : v31 = nI (L.1 + 1) := by rw [e31, rd1 (by omega), k8, nI_1]
      subst e31'
      refine ⟨by dsimp only; omega, g2, g3, rde, ?_, fun k hk => ?_⟩
      · rw [rd2 (by omega), rd2 (by omega), rd1 (by omega)]; exact k12
      · have := rows true k hk
        simp only [rd1, rd2, c4] at this ⊢
        simpa [mI_1] using this
    · exact Fr.tr (Fr.tr fr3 (Fr.I (by unfold SM; omega))) (Fr.I (by unfold SM; omega))
theorem cM_readsLand (hT : TM μ 0 n b) (hb : ∀ k, k < n → b k < 256) (hn : n ≤ 50) :
    Sp E MX11_readsLand [.ref 123] μ (fun v m => ∃ r, v = some (.int r) ∧ (r = oI (land n b).1 ∧ ML m (land n b).2 ∧ Fr SM μ m)) := by
  refine Sp.go rfl rfl rfl (gX11_readsLand_0 (Rt.v cM_clears ?_))
  generalize hν : mI (mI (mI μ 123 7 0) 123 8 0) 123 12 11 = ν
  have fr1 : Fr SM μ ν := by
    rw [← hν]
    exact Fr.tr (Fr.I (by unfold SM; omega)) Fr_clears
  have ml1 : ML ν L0 := by rw [← hν]; exact ML_clears
  have k7 : ν.1 123 7 = nI 0 := by rw [← hν]; rfl
  rw [(hT.fr fr1).1]
  simp (disch := omega) only [n_le0]
  refine ⟨fun q => ?_, fun q => ?_⟩
  · have e3 : land n b = (none, L0) := by unfold land; rw [if_pos q]
    rw [e3]
    exact gX11_readsLand_24 ⟨fun _ => ⟨_, rfl, rfl, ml1, fr1⟩, fun q => absurd rfl q⟩
  have key : ∀ f a m L, a ≤ n → n < a + 3 * f → ML m L → Fr SM μ m → m.1 123 7 = nI a → pGo n b f a L = pGo n b 50 0 L0 → Ex E MX11_readsLand (fun v m => ∃ r, v = some (.int r) ∧ (r = oI (land n b).1 ∧ ML m (land n b).2 ∧ Fr SM μ m)) 24 [(0, .ref 123), (1, .int 1)] [] m := by
    intro f
    induction f with
    | zero => intro a m L h1 h2; omega
    | succ f ih =>
      intro a m L h1 h2 hC hf h7 hR
      have hG : pGo n b (f + 1) a L = if (pPart n b a L).2.1 = false then (some (pPart n b a L).1, L) else if (pPart n b a L).1 = n then (none, (pPart n b a L).2.2) else if ¬ tA n b (pPart n b a L).1 = 59 then (some (pPart n b a L).1, (pPart n b a L).2.2) else pGo n b f ((pPart n b a L).1 + 1) (pPart n b a L).2.2 := rfl
      rw [hG] at hR
      have bad : ∀ (m2 : Mem) (p : Nat), Fr SM μ m2 → m2.1 123 7 = nI p → (pGo n b 50 0 L0).1 = some p → Sp E MX11_clears [.ref 123] m2 (fun v m12 => v = none ∧ ∃ r, some (Value.int (m12.1 123 7)) = some (.int r) ∧ (r = oI (land n b).1 ∧ ML m12 (land n b).2 ∧ Fr SM μ m12)) := by
        intro m2 p hf2 hp hg
        have e3 : land n b = (some p, L0) := by unfold land; rw [if_neg q, if_neg (by rw [hg]; simp), hg]
        rw [e3]
        refine Rt.v cM_clears ⟨_, rfl, ?_, ML_clears, Fr.tr hf2 Fr_clears⟩
        rw [rd2 (by omega), rd2 (by omega), hp]
        rfl
      refine gX11_readsLand_24 ⟨fun q => absurd q (by decide), fun _ => ?_⟩
      refine Sp.i (cM_readsPart (hT.fr hf) hb hn hC (by omega) h7) (fun r m2 hm => ?_)
      obtain ⟨hr, k7, hC2, hf2⟩ := hm
      have hf3 := Fr.tr hf hf2
      rw [hr, b2_0, k7, (hT.fr hf3).1]
      refine ⟨fun ok => ?_, fun ok => ?_⟩
      · rw [Decidable.not_not] at ok
        obtain ⟨k1, k2⟩ := pPart_ok ok
        rw [if_neg (by simp [ok])] at hR
        simp (disch := omega) only [n_le]
        refine ⟨fun q2 v6 e6 => ?_, fun q2 => ?_⟩
        · rw [if_pos (by omega)] at hR
          have e3 : land n b = (none, (pPart n b a L).2.2) := by unfold land; rw [if_neg q, if_pos (by rw [← hR]), ← hR]
          rw [e3]
          exact gX11_readsLand_24 ⟨fun _ => ⟨_, rfl, rfl, hC2.fr rfl rfl rfl rfl rfl, Fr.tr hf3 (Fr.I (by unfold SM; omega))⟩, fun q => absurd rfl q⟩
        · rw [if_neg (by omega)] at hR
          refine Rt.i (cM_here (hT.fr hf3) hn (by omega) k7) ?_
          rw [tI_eq hb _ (c := 59) (d := 59) (by decide)]
          refine ⟨fun q3 v10 e10 => ?_, fun q3 => ?_⟩
          · rw [if_neg (not_not_intro q3)] at hR
            refine ih _ _ _ ?_ ?_ (hC2.fr rfl rfl rfl rfl rfl) (Fr.tr hf3 (Fr.I (by unfold SM; omega))) ?_ hR
            · omega
            · omega
            · rw [rde, e10, k7, nI_1]
          · rw [if_pos q3] at hR
            exact bad m2 _ hf3 k7 (by rw [← hR])
      · have ok2 : (pPart n b a L).2.1 = false := by simpa using ok
        rw [if_pos ok2] at hR
        exact bad m2 _ hf3 k7 (by rw [← hR])
  exact key 50 0 ν L0 (by omega) (by omega) ml1 fr1 k7 rfl
end MLAND2
