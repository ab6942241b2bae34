section SHORT
variable {E : EV} {μ ν : Mem} {L : LD} {S N : Nat} {B : Nat → Nat} {f t i : Nat} {tn : Nat → Nat} {tb : Nat → Nat → Nat} {p q : PA}
def bI (c : Bool) : Int32 := if c = true then 1 else 0
theorem bI_0 {c : Bool} : (bI c = 0) = (c = false) := by cases c <;> simp [bI]
def Ssh (o k : Nat) : Prop := o = 123 ∧ (k = 21 ∨ k = 22 ∨ k = 23)
def SHm (m : Mem) (c : Bool) (s : Nat) (w : Int64) : Prop := m.1 123 23 = bI c ∧ m.1 123 21 = nI s ∧ m.2 123 22 = w
theorem cM_goesOn {a b s : Nat} {c : Bool} {w : Int64} (hU : UN μ L S) (ha : a < 8) (hb : b < 8) (hs : SHm μ c s w) : Sp E MX11_goesOn [.ref 123, .int (nI a), .int (nI b)] μ (fun v ν => v = none ∧ (SHm ν (c && (dst (lA L S) a b).isSome) (s + (dst (lA L S) a b).getD 1000) (w * uW L S a b) ∧ Fr Ssh μ ν)) := by
  obtain ⟨h1, h2, h3⟩ := hs
  obtain ⟨u1, u2⟩ := hU a ha b hb
  have g := dst_g (A := lA L S) (b := b) ha
  have fin : ∀ (c' : Bool) (x : Int32) (v3 : Int32) (v4 : Int64), x = bI c' → c' = (c && (dst (lA L S) a b).isSome) → v3 = ((mI μ 123 23 x).1 123 21) + ((mI μ 123 23 x).1 135 (8 * a + b)) → v4 = ((mI (mI μ 123 23 x) 123 21 v3).2 123 22) * ((mI (mI μ 123 23 x) 123 21 v3).2 136 (8 * a + b)) → True ∧ (SHm (mJ (mI (mI μ 123 23 x) 123 21 v3) 123 22 v4) (c && (dst (lA L S) a b).isSome) (s + (dst (lA L S) a b).getD 1000) (w * uW L S a b) ∧ Fr Ssh μ (mJ (mI (mI μ 123 23 x) 123 21 v3) 123 22 v4)) := by
    intro c' x v3 v4 ex ec e3 e4
    refine ⟨trivial, ⟨?_, ?_, ?_⟩, Fr.tr (Fr.tr (Fr.I ⟨rfl, by omega⟩) (Fr.I ⟨rfl, by omega⟩)) (Fr.J ⟨rfl, by omega⟩)⟩
    · rw [mJ_1, mI_1, if_neg (by omega), rde, ex, ec]
    · rw [mJ_1, rde, e3, mI_1, if_neg (by omega), mI_1, if_neg (by omega), h2, u1, nI_add]
    · rw [mJ_2, if_pos ⟨rfl, rfl⟩, e4, mI_2, mI_2, h3, u2]
  refine Sp.go rfl rfl rfl (gX11_goesOn_0 ?_)
  simp (disch := omega) only [n_cmul, nI_add, n_in, nI_clamp]
  rw [h1, bI_0, u1, n_cle (by omega) (by decide)]
  have k := dst_k (A := lA L S) (b := b) ha
  refine ⟨fun z => ⟨by omega, fun v3 e3 v4 e4 => fin false 0 v3 v4 rfl (by rw [z]; rfl) e3 e4⟩, fun z => ⟨by omega, fun z2 v3 e3 v4 e4 => fin false 0 v3 v4 rfl ?_ e3 e4, fun z2 v3 e3 v4 e4 => fin true 1 v3 v4 rfl ?_ e3 e4⟩⟩
  · rw [show (dst (lA L S) a b) = none from k ▸ z2]
    simp
  · have z : c = true := by cases c; exact absurd rfl z; rfl
    cases d : dst (lA L S) a b with
    | none => exact absurd (by rw [d]; exact Nat.le_refl 1000) z2
    | some n => rw [z]; rfl
noncomputable def shC (L : LD) (S : Nat) (p q : PA) (f t : Nat) : Bool := dB (p.1 ≤ L.2.2.2.2 ∧ q.1 ≤ L.2.2.2.2 ∧ rok L S (btN p q) (btA p q) f t (btN p q + 1))
theorem Bok_bt (hp : Pok L.1 30 p) (hq : Pok L.1 30 q) : Bok L (btN p q) (btA p q) := by
  have := hp.1
  have := hq.1
  refine ⟨by unfold btN; omega, fun i hi => btA_lt hp hq hi⟩
theorem rok_s {i : Nat} : rok L S N B f t (i + 1) ↔ (rok L S N B f t i ∧ rD L S N B f t i ≠ none ∧ (i < N → S.testBit (B i / 2) = false)) := by
  constructor
  · intro h
    exact ⟨fun j hj => h j (by omega), h i (by omega)⟩
  · intro h j hj
    by_cases c : j = i
    · rw [c]; exact h.2
    · exact h.1 j (by omega)
def SPs (o k : Nat) : Prop := SP 0 o k ∨ SP 1 o k ∨ S156 o k ∨ S37 o k ∨ Ssh o k
theorem SPs_SQ {o k : Nat} (h : SPs o k) : SQ o k := by
  rcases h with h | h | h | h | h
  · exact SP_up h
  · exact SP_up h
  · exact S156_SQ h
  · unfold S37 at h; unfold SQ; omega
  · unfold Ssh at h; unfold SQ; omega
theorem UN.fr {T : Nat → Nat → Prop} (h : UN μ L S) (hf : Fr T μ ν) (hn : ∀ k, ¬ T 135 k ∧ ¬ T 136 k) : UN ν L S := fun a ha b hb => by
  rw [(hf _ _ (hn _).1).1, (hf _ _ (hn _).2).2]
  exact h a ha b hb
theorem NDm.fr {T : Nat → Nat → Prop} (h : NDm μ N B) (hf : Fr T μ ν) (h1 : ¬ T 123 20) (hn : ∀ k, ¬ T 137 k) : NDm ν N B := ⟨by rw [(hf _ _ h1).1]; exact h.1, fun i hi => by rw [(hf _ _ (hn _)).1]; exact h.2 i hi⟩
theorem cM_findShortest {a b : Nat} (h : RC μ tn tb S) (hf : f < 8) (ha : a < 4) (ht : t < 8) (hb : b < 4) : Sp E MX11_findShortest [.ref 123, .int (nI f), .int (nI a), .int (nI t), .int (nI b)] μ (fun v ν => v = none ∧ (SHm ν (shC (LN tn tb) S (PW (LN tn tb) tn tb a) (PW (LN tn tb) tn tb b) f t) (btN (PW (LN tn tb) tn tb a) (PW (LN tn tb) tn tb b) + rsm (LN tn tb) S (btN (PW (LN tn tb) tn tb a) (PW (LN tn tb) tn tb b)) (btA (PW (LN tn tb) tn tb a) (PW (LN tn tb) tn tb b)) f t (btN (PW (LN tn tb) tn tb a) (PW (LN tn tb) tn tb b) + 1)) (rpr (LN tn tb) S (btN (PW (LN tn tb) tn tb a) (PW (LN tn tb) tn tb b)) (btA (PW (LN tn tb) tn tb a) (PW (LN tn tb) tn tb b)) f t (btN (PW (LN tn tb) tn tb a) (PW (LN tn tb) tn tb b) + 1)) ∧ NDm ν (btN (PW (LN tn tb) tn tb a) (PW (LN tn tb) tn tb b)) (btA (PW (LN tn tb) tn tb a) (PW (LN tn tb) tn tb b)) ∧ UN ν (LN tn tb) S ∧ ML ν (LN tn tb) ∧ Fr SQ μ ν)) := by
  have hp := h.pok ha
  have hq := h.pok hb
  have hS := h.2.2.2.1
  refine Sp.go rfl rfl rfl (gX11_findShortest_0 (cM_two h ha hb (fun m2 P2 Q2 M2 F2 => ?_)))
  generalize PW (LN tn tb) tn tb a = p at hp P2 ⊢
  generalize PW (LN tn tb) tn tb b = q at hq Q2 ⊢
  have hB := Bok_bt hp hq
  have f2 : Fr SQ μ m2 := F2.up (fun _ _ => SP2_up)
  have h2 := h.fr f2
  refine Sp.v (cM_findUnseen M2 hS h2.2.2.2.2.2) (fun m3 h3 => ?_)
  have M3 : ML m3 (LN tn tb) := M2.frS h3.2 (by unfold S156; omega) (by unfold S156; omega) (fun k => by unfold S156; omega)
  have P3 : PMd m3 0 p := P2.fr (by have := hp.1; omega) h3.2 (by unfold S156; omega) (fun k _ _ => by unfold S156; omega)
  have Q3 : PMd m3 1 q := Q2.fr (by have := hq.1; omega) h3.2 (by unfold S156; omega) (fun k _ _ => by unfold S156; omega)
  refine Sp.v (cM_findBetween P3 Q3 hp hq M3.1) (fun m4 h4 => ?_)
  have M4 : ML m4 (LN tn tb) := M3.frS h4.2 (by unfold S37; omega) (by unfold S37; omega) (fun k => by unfold S37; omega)
  have P4 : PMd m4 0 p := P3.fr (by have := hp.1; omega) h4.2 (by unfold S37; omega) (fun k _ _ => by unfold S37; omega)
  have Q4 : PMd m4 1 q := Q3.fr (by have := hq.1; omega) h4.2 (by unfold S37; omega) (fun k _ _ => by unfold S37; omega)
  have U4 : UN m4 (LN tn tb) S := h3.1.fr h4.2 (fun k => by unfold S37; omega)
  have f4 : Fr SQ μ m4 := Fr.tr f2 (Fr.tr (h3.2.up (fun _ _ => S156_SQ)) (h4.2.up (fun o k w => by unfold S37 at w; unfold SQ; omega)))
  have s4 : m4.1 123 13 = nI S := (h.fr f4).2.2.2.2.2
  generalize LN tn tb = L at *
  generalize hN : btN p q = N at *
  generalize hBB : btA p q = B at *
  have hL := M4.ok
  have b60 := hB.1
  have mk : ∀ m, Fr Ssh m4 m → ML m L ∧ UN m L S ∧ NDm m N B ∧ m.1 123 13 = nI S ∧ Fr SQ μ m := fun m hf => ⟨M4.frS hf (by unfold Ssh; omega) (by unfold Ssh; omega) (fun k => by unfold Ssh; omega), U4.fr hf (fun k => by unfold Ssh; omega), h4.1.fr hf (by unfold Ssh; omega) (fun k => by unfold Ssh; omega), by rw [(hf _ _ (by unfold Ssh; omega)).1]; exact s4, Fr.tr f4 (hf.up (fun o k w => by unfold Ssh at w; unfold SQ; omega))⟩
  have key : ∀ d k m c, k + d = N → Fr Ssh m4 m → SHm m c (k + rsm L S N B f t k) (rpr L S N B f t k) → (c = true ↔ (p.1 ≤ L.2.2.2.2 ∧ q.1 ≤ L.2.2.2.2 ∧ rok L S N B f t k)) → Ex E MX11_findShortest (fun v ν => v = none ∧ (SHm ν (shC L S p q f t) (N + rsm L S N B f t (N + 1)) (rpr L S N B f t (N + 1)) ∧ NDm ν N B ∧ UN ν L S ∧ ML ν L ∧ Fr SQ μ ν)) 72 [(0, .ref 123), (1, .int (nI f)), (2, .int (nI a)), (3, .int (nI t)), (4, .int (nI b)), (5, .int (nI (og L B f k))), (6, .int (nI k))] [] m := by
    intro d
    induction d with
    | zero =>
      intro k m c hk hfr hs hc
      have : k = N := by omega
      subst this
      obtain ⟨M, U, D, s, F⟩ := mk m hfr
      refine gX11_findShortest_72 ?_
      rw [D.1, n_le (by omega) (by omega)]
      refine ⟨fun _ => Sp.v (cM_goesOn U (og_lt hL hB hf (Nat.le_refl _)) ht hs) (fun m2 h2 => ⟨rfl, ?_, ?_⟩), fun z => absurd (Nat.le_refl _) z⟩
      · have e : gl L k B t k = t := by unfold gl; rw [if_neg (by omega)]
        have e1 : rsm L S k B f t (k + 1) = rsm L S k B f t k + (dst (lA L S) (og L B f k) t).getD 1000 := by
          show _ + (dst (lA L S) (og L B f k) (gl L k B t k)).getD 1000 = _
          rw [e]
        have e2 : rpr L S k B f t (k + 1) = rpr L S k B f t k * uW L S (og L B f k) t := by
          show _ * uW L S (og L B f k) (gl L k B t k) = _
          rw [e]
        have e3 : shC L S p q f t = (c && (dst (lA L S) (og L B f k) t).isSome) := by
          rw [Bool.eq_iff_iff]
          unfold shC
          rw [dB_t, hN, hBB, rok_s, Bool.and_eq_true, hc]
          have : rD L S k B f t k = dst (lA L S) (og L B f k) t := by unfold rD; rw [e]
          rw [this, ← Option.isSome_iff_ne_none]
          constructor
          · rintro ⟨w1, w2, w3, w4, w5⟩
            exact ⟨⟨w1, w2, w3⟩, w4⟩
          · rintro ⟨⟨w1, w2, w3⟩, w4⟩
            exact ⟨w1, w2, w3, w4, fun w => by omega⟩
        rw [e1, e2, e3, ← Nat.add_assoc]
        exact h2.1
      · obtain ⟨M', U', D', s', F'⟩ := mk m2 (Fr.tr hfr h2.2)
        exact ⟨D', U', M', F'⟩
    | succ d ih =>
      intro k m c hk hfr hs hc
      obtain ⟨M, U, D, s, F⟩ := mk m hfr
      have kl := hB.2 k (by omega)
      have h9 := hL.1
      refine gX11_findShortest_72 ?_
      rw [D.1]
      simp (disch := omega) only [n_le, n_in, nI_clamp]
      refine ⟨fun z => by omega, fun _ => ⟨by omega, fun v4 e4 => ?_⟩⟩
      rw [D.2 k (by omega)] at e4
      subst e4
      refine Rt.i (cM_start M kl) (Sp.v (cM_goesOn U (og_lt hL hB hf (by omega)) (hL.2 _ kl).1 hs) (fun m7 h7 => ?_))
      obtain ⟨M7, U7, D7, s7, F7⟩ := mk m7 (Fr.tr hfr h7.2)
      have e : gl L N B t k = lS L (B k) := by unfold gl; rw [if_pos (by omega)]
      have e1 : rsm L S N B f t (k + 1) = rsm L S N B f t k + (dst (lA L S) (og L B f k) (lS L (B k))).getD 1000 := by
        show _ + (dst (lA L S) (og L B f k) (gl L N B t k)).getD 1000 = _
        rw [e]
      have e2 : rpr L S N B f t (k + 1) = rpr L S N B f t k * uW L S (og L B f k) (lS L (B k)) := by
        show _ * uW L S (og L B f k) (gl L N B t k) = _
        rw [e]
      have e5 : og L B f (k + 1) = lE L (B k) := by unfold og; rw [if_neg (by omega)]; rfl
      have hrD : rD L S N B f t k = dst (lA L S) (og L B f k) (lS L (B k)) := by unfold rD; rw [e]
      have nx : ∀ (c' : Bool) (x : Int32) (m13 : Mem), m13 = m7 → x = bI c' → (c' = true ↔ (p.1 ≤ L.2.2.2.2 ∧ q.1 ≤ L.2.2.2.2 ∧ rok L S N B f t (k + 1))) → ∀ v9 : Int32, v9 = ((mI m13 123 23 x).1 123 21) + 1 → Sp E MX11_end [.ref 123, .int (nI (B k))] (mI (mI m13 123 23 x) 123 21 v9) (fun v m10 => ∃ r11 : Int32, v = some (.int r11) ∧ ∀ v12 : Int32, v12 = nI k + 1 → Ex E MX11_findShortest (fun v ν => v = none ∧ (SHm ν (shC L S p q f t) (N + rsm L S N B f t (N + 1)) (rpr L S N B f t (N + 1)) ∧ NDm ν N B ∧ UN ν L S ∧ ML ν L ∧ Fr SQ μ ν)) 72 [(0, .ref 123), (1, .int (nI f)), (2, .int (nI a)), (3, .int (nI t)), (4, .int (nI b)), (5, .int r11), (6, .int v12)] [] m10) := by
        intro c' x m13 em ex hc' v9 e9
        subst em
        have fx : Fr Ssh m4 (mI (mI m13 123 23 x) 123 21 v9) := Fr.tr (Fr.tr hfr h7.2) (Fr.tr (Fr.I ⟨rfl, by omega⟩) (Fr.I ⟨rfl, by omega⟩))
        refine Rt.i (cM_end (mk _ fx).1 kl) (fun v12 e12 => ?_)
        rw [e12, n_addc, ← e5]
        refine ih (k + 1) _ c' (by omega) fx ⟨?_, ?_, ?_⟩ hc'
        · rw [mI_1, if_neg (by omega), rde, ex]
        · rw [rde, e9, mI_1, if_neg (by omega), h7.1.2.1, n_addc, e1]
          congr 1
          omega
        · rw [mI_2, mI_2, h7.1.2.2, e2]
      rw [h7.1.1, bI_0]
      refine ⟨fun z => nx false 0 m7 rfl rfl ?_, fun z => ?_⟩
      · rw [rok_s, hrD]
        constructor
        · intro w; cases w
        · rintro ⟨w1, w2, w3, w4, w5⟩
          rw [hc.2 ⟨w1, w2, w3⟩, Option.isSome_iff_ne_none.2 w4] at z
          cases z
      · rw [Bool.not_eq_false, Bool.and_eq_true, hc, Option.isSome_iff_ne_none] at z
        rw [n_divc (by omega) (by decide) (by decide)]
        refine Rt.i (cM_isShut hS s7 (by omega)) ?_
        rw [b2_0]
        refine ⟨fun z2 => nx false 0 m7 rfl rfl ?_, fun z2 => nx true 1 m7 rfl rfl ?_⟩
        · rw [rok_s]
          constructor
          · intro w; cases w
          · rintro ⟨w1, w2, w3, w4, w5⟩
            rw [w5 (by omega)] at z2
            exact absurd (fun w => by cases w) z2
        · rw [rok_s, hrD]
          exact ⟨fun _ => ⟨z.1.1, z.1.2.1, z.1.2.2, z.2, fun _ => by simpa using z2⟩, fun _ => rfl⟩
  have r0 : rok L S N B f t 0 := fun j hj => by omega
  have g0 : og L B f 0 = f := rfl
  have hr := M4.2.2.1
  have pl := hp.1
  have ql := hq.1
  rw [mI_1, if_neg (by omega), mI_1, if_neg (by omega), mI_1, if_neg (by omega), M4.2.2.2.2.1, P4.1, Q4.1, n_lt (by omega) (by omega), n_lt (by omega) (by omega)]
  have st : ∀ (c : Bool) (x : Int32), x = bI c → Fr Ssh m4 (mJ (mI (mI m4 123 21 0) 123 23 x) 123 22 1) ∧ SHm (mJ (mI (mI m4 123 21 0) 123 23 x) 123 22 1) c (0 + rsm L S N B f t 0) (rpr L S N B f t 0) := by
    intro c x ex
    refine ⟨Fr.tr (Fr.tr (Fr.I ⟨rfl, by omega⟩) (Fr.I ⟨rfl, by omega⟩)) (Fr.J ⟨rfl, by omega⟩), ?_, ?_, ?_⟩
    · rw [mJ_1, rde, ex]
    · rw [mJ_1, mI_1, if_neg (by omega), rde]
      rfl
    · rw [mJ_2, if_pos ⟨rfl, rfl⟩]
      rfl
  refine ⟨fun z => key N 0 _ false (by omega) (st false 0 rfl).1 (st false 0 rfl).2 ⟨fun w => (by cases w), fun w => by omega⟩, fun z => ⟨fun z2 => key N 0 _ false (by omega) (st false 0 rfl).1 (st false 0 rfl).2 ⟨fun w => (by cases w), fun w => by omega⟩, fun z2 => key N 0 _ true (by omega) (st true 1 rfl).1 (st true 1 rfl).2 ⟨fun _ => ⟨by omega, by omega, r0⟩, fun _ => rfl⟩⟩⟩
noncomputable def shV (L : LD) (S : Nat) (p q : PA) (f t w : Nat) : Int64 := if w = 0 then (if shC L S p q f t = true then Int32.toInt64 (nI (btN p q + rsm L S (btN p q) (btA p q) f t (btN p q + 1))) else -1) else (if shC L S p q f t = true then rpr L S (btN p q) (btA p q) f t (btN p q + 1) else 0)
theorem cM_shortestOf {a b w : Nat} (h : RC μ tn tb S) (hf : f < 8) (ha : a < 4) (ht : t < 8) (hb : b < 4) (hw : w < 2) : Sp E MX11_shortestOf [.ref 123, .int (nI f), .int (nI a), .int (nI t), .int (nI b), .int (nI w)] μ (fun v ν => ∃ r : Int64, v = some (.long r) ∧ (r = shV (LN tn tb) S (PW (LN tn tb) tn tb a) (PW (LN tn tb) tn tb b) f t w ∧ Fr SQ μ ν)) := by
  refine Sp.go rfl rfl rfl (gX11_shortestOf_0 (Sp.v (cM_findShortest h hf ha ht hb) (fun m h1 => ?_)))
  obtain ⟨⟨s1, s2, s3⟩, -, -, -, F⟩ := h1
  rw [s1, s2, s3, bI_0, n_eqc (c := 1) (by omega) (by decide)]
  have w1 : ¬ w = 1 → w = 0 := fun z => by omega
  unfold shV
  refine ⟨fun z => ⟨fun z2 => ⟨_, rfl, by rw [if_pos (w1 z), if_neg (by rw [z2]; decide)], F⟩, fun z2 => ⟨_, rfl, by rw [if_pos (w1 z), if_pos (Bool.not_eq_false _ ▸ z2)], F⟩⟩, fun z => ⟨fun z2 => ⟨_, rfl, ?_, F⟩, fun z2 => ⟨_, rfl, ?_, F⟩⟩⟩
  · have z : w = 1 := z
    rw [if_neg (by omega), if_neg (by rw [z2]; decide)]
  · have z : w = 1 := z
    rw [if_neg (by omega), if_pos (Bool.not_eq_false _ ▸ z2)]
theorem cL_roomTold (hC : CL μ L) : Rt E MX3_roomTold [.ref 1] μ (some (.int (nI L.2.2.2.2))) μ := Sp.go rfl rfl rfl (gX3_roomTold_0 ⟨by rw [hC.2.2.2.2.2.1], rfl⟩)
theorem S47_SQ {o : Nat} (h : 4 ≤ o ∧ o ≤ 7) (k : Nat) : SQ o k := by unfold SQ; omega
theorem cX_planRoute {a b : Nat} (h : RC μ tn tb S) (hf : f < 8) (ha : a < 4) (ht : t < 8) (hb : b < 4) : Sp E MX10_planRoute [.ref 0, .int (nI f), .int (nI a), .int (nI t), .int (nI b)] μ (fun v ν => ∃ r, v = some (.int r) ∧ ((shC (LN tn tb) S (PW (LN tn tb) tn tb a) (PW (LN tn tb) tn tb b) f t = true → r = nI (btN (PW (LN tn tb) tn tb a) (PW (LN tn tb) tn tb b) + rsm (LN tn tb) S (btN (PW (LN tn tb) tn tb a) (PW (LN tn tb) tn tb b)) (btA (PW (LN tn tb) tn tb a) (PW (LN tn tb) tn tb b)) f t (btN (PW (LN tn tb) tn tb a) (PW (LN tn tb) tn tb b) + 1)) ∧ RTE ν (LN tn tb) S (btN (PW (LN tn tb) tn tb a) (PW (LN tn tb) tn tb b)) (btA (PW (LN tn tb) tn tb a) (PW (LN tn tb) tn tb b)) ∧ rok (LN tn tb) S (btN (PW (LN tn tb) tn tb a) (PW (LN tn tb) tn tb b)) (btA (PW (LN tn tb) tn tb a) (PW (LN tn tb) tn tb b)) f t (btN (PW (LN tn tb) tn tb a) (PW (LN tn tb) tn tb b) + 1)) ∧ (¬ shC (LN tn tb) S (PW (LN tn tb) tn tb a) (PW (LN tn tb) tn tb b) f t = true → r = -1) ∧ Fr SQ μ ν)) := by
  have hp := h.pok ha
  have hq := h.pok hb
  have hS := h.2.2.2.1
  refine Sp.go rfl rfl rfl (gX10_planRoute_0 (cX_two h ha hb (fun m2 P2 Q2 F2 => ?_)))
  generalize PW (LN tn tb) tn tb a = p at hp P2 ⊢
  generalize PW (LN tn tb) tn tb b = q at hq Q2 ⊢
  have f2 : Fr SQ μ m2 := F2.up (fun _ k w => S47_SQ w k)
  have h2 := h.fr f2
  have hB := Bok_bt hp hq
  have hr := h2.2.1.2.2.1
  have pl := hp.1
  have ql := hq.1
  refine Rt.i (cP_size (by decide)) (Rt.i (cP_size (by decide)) (Rt.i (cL_roomTold h2.2.1) ?_))
  rw [P2.1, Q2.1]
  have mx : ((if nI p.1 < nI q.1 then nI q.1 else nI p.1) ≤ nI (LN tn tb).2.2.2.2) = (p.1 ≤ (LN tn tb).2.2.2.2 ∧ q.1 ≤ (LN tn tb).2.2.2.2) := by
    by_cases c : p.1 < q.1
    · rw [if_pos (by rw [n_lt (by omega) (by omega)]; exact c), n_le (by omega) (by omega)]
      exact propext ⟨fun w => by omega, fun w => by omega⟩
    · rw [if_neg (by rw [n_lt (by omega) (by omega)]; exact c), n_le (by omega) (by omega)]
      exact propext ⟨fun w => by omega, fun w => by omega⟩
  rw [mx]
  have sc : shC (LN tn tb) S p q f t = true ↔ _ := dB_t
  refine ⟨fun z => Sp.v (cR_plan h2 P2 Q2 hp hq) (fun m10 h10 => ?_), fun z => ⟨_, rfl, fun w => absurd ⟨(sc.1 w).1, (sc.1 w).2.1⟩ z, fun _ => rfl, f2⟩⟩
  have f10 : Fr SQ μ m10 := Fr.tr f2 (h10.2.2.up (fun _ _ => SRt_SQ))
  have h10' := h.fr f10
  have rte : RTE m10 (LN tn tb) S (btN p q) (btA p q) := ⟨h10'.2.1, hS, h10'.2.2.2.2.1, h10.1, h10.2.1, hB⟩
  refine Sp.i (cR_gatesBetween rte hf ht) (fun r m hm => ⟨r, rfl, fun w => ?_, fun w => ?_, ?_⟩)
  · have w' := (sc.1 w).2.2
    exact ⟨hm.1 w', hm.2.2 ▸ rte, w'⟩
  · exact hm.2.1 (fun w' => w (sc.2 ⟨z.1, z.2, w'⟩))
  · rw [hm.2.2]; exact f10
theorem cX_shortest {a b w : Nat} (h : RC μ tn tb S) (hf : f < 8) (ha : a < 4) (ht : t < 8) (hb : b < 4) (hw : w < 2) : Sp E MX10_shortest [.ref 0, .int (nI f), .int (nI a), .int (nI t), .int (nI b), .int (nI w)] μ (fun v ν => ∃ r : Int64, v = some (.long r) ∧ (r = shV (LN tn tb) S (PW (LN tn tb) tn tb a) (PW (LN tn tb) tn tb b) f t w ∧ Fr SQ μ ν)) := by
  have ok : ¬ b2 (Rg (nI f) 0 7 ∧ Rg (nI a) 0 3 ∧ Rg (nI t) 0 7 ∧ Rg (nI b) 0 3) = 0 := fun z => by
    rw [b2_0, Rg.nI (by omega), Rg.nI (by omega), Rg.nI (by omega), Rg.nI (by omega)] at z
    omega
  have h01 := x01 hw rfl
  have hB := Bok_bt (h.pok ha) (h.pok hb)
  have sb := rsm_le (S := S) (t := t) h.2.1.ok hB hf (_ + 1) (Nat.le_refl _)
  have b60 := hB.1
  refine Sp.go rfl rfl rfl (gX10_shortest_0 (Rt.i (cX_areEnds _ _ _ _) ⟨fun z => absurd z ok, fun _ => ⟨fun z => absurd z h01.1, fun _ => ⟨fun _ => Sp.i (cX_planRoute h hf ha ht hb) (fun r m hm => ?_), fun z => absurd h01.2 z⟩⟩⟩))
  obtain ⟨q1, q2, q3⟩ := hm
  rw [n_eq0 (by omega)]
  unfold shV
  by_cases c : shC (LN tn tb) S (PW (LN tn tb) tn tb a) (PW (LN tn tb) tn tb b) f t = true
  · obtain ⟨r1, r2, r3⟩ := q1 c
    rw [if_pos c, if_pos c]
    refine ⟨fun z => ⟨fun z2 => ?_, fun z2 => ?_⟩, fun z => ⟨_, rfl, by rw [if_pos z, r1], q3⟩⟩
    · rw [if_neg z]
      exact Sp.l (cR_ways r2 hf ht r3) (fun r m' hm => ⟨r, rfl, hm.1, Fr.tr q3 (hm.2.up (fun _ _ => S25_SQ))⟩)
    · rw [r1] at z2
      exact absurd z2 (ng_m1 (by omega))
  · have r1 := q2 c
    rw [if_neg c, if_neg c]
    refine ⟨fun z => ⟨fun z2 => absurd r1 z2, fun z2 => ⟨_, rfl, by rw [if_neg z], q3⟩⟩, fun z => ⟨_, rfl, by rw [if_pos z, r1]; rfl, q3⟩⟩
theorem op_shortest (h : RC μ tn tb S) (x y z u v : Int32) : OpL E MX10_shortest MX11_shortest [.int x, .int y, .int z, .int u, .int v] μ (fun ν => Fr SQ μ ν) := by
  by_cases c : (Rg x 0 7 ∧ Rg y 0 3 ∧ Rg z 0 7 ∧ Rg u 0 3)
  · by_cases c2 : Rg v 0 1
    · obtain ⟨c1, c3, c4, c5⟩ := id c
      obtain ⟨f, hf, rfl⟩ := Rg.nat (x := x) (b := 7) c1
      obtain ⟨a, ha, rfl⟩ := Rg.nat (x := y) (b := 3) c3
      obtain ⟨t, ht, rfl⟩ := Rg.nat (x := z) (b := 7) c4
      obtain ⟨b, hb, rfl⟩ := Rg.nat (x := u) (b := 3) c5
      obtain ⟨w, hw, rfl⟩ := rg01n c2
      refine Sp.l (cX_shortest h (by omega) (by omega) (by omega) (by omega) hw) (fun r m hm => ?_)
      refine Sp.go rfl rfl rfl (gX11_shortest_0 (Rt.i (cM_isAsked _ _ _ _) ⟨fun q => absurd q (by rw [b2_0]; exact fun w => w c), fun _ => Rt.i (cM_isTwo _) ⟨fun q => absurd q (by rw [b2_0]; exact fun w => w c2), fun _ => ?_⟩⟩))
      exact Sp.l (cM_shortestOf (h.fr hm.2) (by omega) (by omega) (by omega) (by omega) hw) (fun r2 m2 hm2 => ⟨by rw [hm2.1, hm.1], Fr.tr hm.2 hm2.2⟩)
    · have bad : Sp E MX11_shortest [.ref 123, .int x, .int y, .int z, .int u, .int v] μ (fun v' ξ => v' = some (.long ((-9223372036854775808) - Int32.toInt64 (-2))) ∧ Fr SQ μ ξ) := by
        refine Sp.go rfl rfl rfl (gX11_shortest_0 (Rt.i (cM_isAsked _ _ _ _) ⟨fun q => absurd q (by rw [b2_0]; exact fun w => w c), fun _ => Rt.i (cM_isTwo _) ⟨fun q => Rt.l (cM_no _) ⟨rfl, Fr.rf⟩, fun q => absurd (b2_f c2) q⟩⟩))
      refine Sp.go rfl rfl rfl (gX10_shortest_0 (Rt.i (cX_areEnds _ _ _ _) ⟨fun q => absurd q (by rw [b2_0]; exact fun w => w c), fun _ => ⟨fun q => Rt.l (cX_longRefusal _) ⟨_, rfl, bad⟩, fun q => ⟨fun q2 => ?_, fun q2 => Rt.l (cX_longRefusal _) ⟨_, rfl, bad⟩⟩⟩⟩))
      rcases rg01' c2 with w | w
      · exact absurd w q
      · exact absurd q2 w
  · refine Sp.go rfl rfl rfl (gX10_shortest_0 (Rt.i (cX_areEnds _ _ _ _) ⟨fun q => Rt.l (cX_longRefusal _) ⟨_, rfl, ?_⟩, fun q => absurd (b2_f c) q⟩))
    exact Sp.go rfl rfl rfl (gX11_shortest_0 (Rt.i (cM_isAsked _ _ _ _) ⟨fun q => Rt.l (cM_no _) ⟨rfl, Fr.rf⟩, fun q => absurd (b2_f c) q⟩))
end SHORT
