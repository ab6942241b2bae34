/-! the ways that leave nothing -/
def clS (L : LD) (S : Nat) (C : Nat → Nat → Nat → Nat → Int64) (q a b n : Nat) : Int64 :=
  if n = 0 then (if a = b then 1 else 0) else sJ (2 * L.1) (fun l => if lS L l = a ∧ S.testBit (l / 2) = false ∧ ¬ (l = q ∧ lW L l = true) then (if lW L l = true then sJ (n - 1) (fun k => C (bk l) (lE L l) (lE L l) k * C q a b (n - 2 - k)) else C q (lE L l) b (n - 1)) else 0)
def clT (L : LD) (S : Nat) : Nat → Nat → Nat → Nat → Nat → Int64
  | 0, _, _, _, _ => 0
  | N + 1, q, a, b, n => if n = N then clS L S (clT L S N) q a b N else clT L S N q a b n
def cl (L : LD) (S q a b n : Nat) : Int64 := clT L S (n + 1) q a b n
theorem clT_eq {L : LD} {S q a b n : Nat} : ∀ N, n < N → clT L S N q a b n = cl L S q a b n
  | 0, h => by omega
  | N + 1, h => by
    by_cases c : n = N
    · subst c; rfl
    · show (if n = N then _ else clT L S N q a b n) = _
      rw [if_neg c, clT_eq N (by omega)]
theorem clS_congr {L : LD} {S q a b n : Nat} {C D : Nat → Nat → Nat → Nat → Int64} (h : ∀ q a b k, k < n → C q a b k = D q a b k) : clS L S C q a b n = clS L S D q a b n := by
  unfold clS
  by_cases c : n = 0
  · rw [if_pos c, if_pos c]
  · rw [if_neg c, if_neg c]
    refine sJ_congr _ (fun l _ => ?_)
    split
    · split
      · refine sJ_congr _ (fun k hk => ?_)
        rw [h _ _ _ k (by omega), h _ _ _ (n - 2 - k) (by omega)]
      · rw [h _ _ _ (n - 1) (by omega)]
    · rfl
theorem cl_rec {L : LD} {S q a b n : Nat} : cl L S q a b n = clS L S (cl L S) q a b n := by
  show (if n = n then clS L S (clT L S n) q a b n else _) = _
  rw [if_pos rfl]
  exact clS_congr (fun q a b k hk => clT_eq n hk)
/-- the rounds from a town that a letter doesn't bar -/
def aR (L : LD) (S q t r : Nat) : Int64 := if r < 2 then 0 else sJ (2 * L.1) (fun l => if lS L l = t ∧ S.testBit (l / 2) = false ∧ lW L l = true ∧ ¬ l = q then cl L S (bk l) (lE L l) (lE L l) (r - 2) else 0)
theorem aR_0 {L : LD} {S q t : Nat} : aR L S q t 0 = 0 := rfl
theorem aR_1 {L : LD} {S q t : Nat} : aR L S q t 1 = 0 := rfl
theorem cl_left {L : LD} {S q : Nat} (n a b : Nat) : cl L S q a b n = (if a = b then dl0 n else 0) + sI (2 * L.1) (fun l => lU L S l && decide (lS L l = a)) (fun l => sf (cl L S q (lE L l) b) n) + cv (aR L S q a) (cl L S q a b) n := by
  rw [cl_rec]
  unfold clS
  cases n with
  | zero =>
    rw [if_pos rfl]
    have e1 : sI (2 * L.1) (fun l => lU L S l && decide (lS L l = a)) (fun l => sf (cl L S q (lE L l) b) 0) = 0 := sJ_zero _ (fun l _ => by split <;> rfl)
    have e2 : cv (aR L S q a) (cl L S q a b) 0 = 0 := by
      show 0 + 0 * _ = (0 : Int64)
      rw [Int64.zero_mul]; rfl
    rw [e1, e2, Int64.add_zero, Int64.add_zero]
    rfl
  | succ n =>
    rw [if_neg (by omega), cv_2 aR_0 aR_1]
    have e0 : (if a = b then dl0 (n + 1) else 0) = 0 := by split <;> rfl
    rw [e0, Int64.zero_add]
    have e2 : sJ n (fun k => aR L S q a (k + 2) * cl L S q a b (n - 1 - k)) = sJ (2 * L.1) (fun l => if lS L l = a ∧ S.testBit (l / 2) = false ∧ lW L l = true ∧ ¬ l = q then sJ n (fun k => cl L S (bk l) (lE L l) (lE L l) k * cl L S q a b (n - 1 - k)) else 0) := by
      have e3 : sJ n (fun k => aR L S q a (k + 2) * cl L S q a b (n - 1 - k)) = sJ n (fun k => sJ (2 * L.1) (fun l => (if lS L l = a ∧ S.testBit (l / 2) = false ∧ lW L l = true ∧ ¬ l = q then cl L S (bk l) (lE L l) (lE L l) k else 0) * cl L S q a b (n - 1 - k))) := by
        refine sJ_congr _ (fun k _ => ?_)
        rw [← sJ_mulr]
        rfl
      rw [e3, sJ_swap]
      refine sJ_congr _ (fun l _ => ?_)
      split
      · rfl
      · exact sJ_zero _ (fun k _ => Int64.zero_mul)
    rw [e2]
    unfold sI
    rw [← sJ_add]
    refine sJ_congr _ (fun l _ => ?_)
    show (if lS L l = a ∧ S.testBit (l / 2) = false ∧ ¬ (l = q ∧ lW L l = true) then (if lW L l = true then sJ n (fun k => cl L S (bk l) (lE L l) (lE L l) k * cl L S q a b (n + 1 - 2 - k)) else cl L S q (lE L l) b n) else 0) = (if (lU L S l && decide (lS L l = a)) = true then cl L S q (lE L l) b n else 0) + _
    rw [show n + 1 - 2 = n - 1 by omega]
    unfold lU
    by_cases c1 : lS L l = a <;> cases c2 : S.testBit (l / 2) <;> cases c3 : lW L l <;> by_cases c4 : l = q <;> simp [c1, c4]
theorem cl_right {L : LD} {S q : Nat} (n a b : Nat) : cl L S q a b n = (if a = b then dl0 n else 0) + sI (2 * L.1) (fun l => lU L S l && decide (lE L l = b)) (fun l => sf (cl L S q a (lS L l)) n) + cv (cl L S q a b) (aR L S q b) n :=
  lr_eq (C := cl L S q) (A := aR L S q) (s := lS L) (e := lE L) (P := lU L S) (m := 2 * L.1) (fun t => aR_0) (fun n a b => cl_left n a b) n a b
theorem cl_supp {L : LD} {S q : Nat} (hL : Lok L) : ∀ n a b, a < 8 → dst (lA L S) a b = none → cl L S q a b n = 0 := by
  intro n
  induction n using Nat.strongRecOn with
  | ind n ih =>
    intro a b ha hd
    rw [cl_left]
    have ne : ¬ a = b := fun c => by rw [c, dst_refl] at hd; cases hd
    have e1 : sI (2 * L.1) (fun l => lU L S l && decide (lS L l = a)) (fun l => sf (cl L S q (lE L l) b) n) = 0 := sJ_zero _ (fun l hl => by
      split
      · rename_i w
        simp at w
        unfold sf
        split
        · rfl
        · refine ih (n - 1) (by omega) _ b (hL.2 l hl).2 (dst_none.2 (fun k v => ?_))
          exact dst_none.1 hd (k + 1) (dWk_cons k b ha (hL.2 l hl).2 ⟨l, hl, lU_p.1 w.1, w.2, rfl⟩ v)
      · rfl)
    have e2 : cv (aR L S q a) (cl L S q a b) n = 0 := sJ_zero _ (fun k _ => by
      by_cases c : k = 0
      · rw [c, aR_0, Int64.zero_mul]
      · rw [ih (n - k) (by omega) a b ha hd, Int64.mul_zero])
    rw [if_neg ne, e1, e2]
    rfl
/-- all rounds, and what is barred -/
theorem aR_bar {L : LD} {S w t r : Nat} (hw : w < 2 * L.1) (h1 : S.testBit (w / 2) = false) (h2 : lW L w = true) (h9 : L.1 ≤ 9) : aR L S (bk w) t r = aR L S 18 t r - (if lE L w = t ∧ 2 ≤ r then cl L S w (lS L w) (lS L w) (r - 2) else 0) := by
  unfold aR
  by_cases c : r < 2
  · rw [if_pos c, if_pos c, if_neg (by omega)]
    rfl
  · rw [if_neg c, if_neg c]
    have bw : bk w < 2 * L.1 := bk_lt hw
    have hb2 : bk w / 2 = w / 2 := by unfold bk; split <;> omega
    have lw : lW L (bk w) = true := by unfold lW at h2 ⊢; rw [hb2]; exact h2
    have le : lE L (bk w) = lS L w := by unfold lE; rw [bk_bk]
    have one : ∀ n x, x < n → ∀ v : Int64, sJ n (fun l => if l = x then v else 0) = v := by
      intro n x hx v
      induction n with
      | zero => omega
      | succ n ih =>
        show sJ n (fun l => if l = x then v else 0) + (if n = x then v else 0) = v
        by_cases e : n = x
        · rw [if_pos e, sJ_zero n (fun i hi => by rw [if_neg (by omega)])]
          grind
        · rw [if_neg e, ih (by omega)]
          grind
    by_cases ct : lE L w = t
    · rw [if_pos ⟨ct, by omega⟩]
      have e : sJ (2 * L.1) (fun l => if lS L l = t ∧ S.testBit (l / 2) = false ∧ lW L l = true ∧ ¬ l = 18 then cl L S (bk l) (lE L l) (lE L l) (r - 2) else 0) = sJ (2 * L.1) (fun l => if lS L l = t ∧ S.testBit (l / 2) = false ∧ lW L l = true ∧ ¬ l = bk w then cl L S (bk l) (lE L l) (lE L l) (r - 2) else 0) + sJ (2 * L.1) (fun l => if l = bk w then cl L S w (lS L w) (lS L w) (r - 2) else 0) := by
        rw [← sJ_add]
        refine sJ_congr _ (fun l hl => ?_)
        by_cases e : l = bk w
        · have hs : lS L l = t := by rw [e]; exact ct
          rw [if_pos ⟨hs, by rw [e, hb2]; exact h1, by rw [e]; exact lw, by omega⟩, if_neg (fun q => q.2.2.2 e), if_pos e, e, bk_bk, le, Int64.zero_add]
        · rw [if_neg e, Int64.add_zero]
          by_cases q : lS L l = t ∧ S.testBit (l / 2) = false ∧ lW L l = true
          · rw [if_pos ⟨q.1, q.2.1, q.2.2, by omega⟩, if_pos ⟨q.1, q.2.1, q.2.2, e⟩]
          · rw [if_neg (fun v => q ⟨v.1, v.2.1, v.2.2.1⟩), if_neg (fun v => q ⟨v.1, v.2.1, v.2.2.1⟩)]
      rw [e, one _ _ bw]
      grind
    · rw [if_neg (fun v => ct v.1)]
      have e : sJ (2 * L.1) (fun l => if lS L l = t ∧ S.testBit (l / 2) = false ∧ lW L l = true ∧ ¬ l = bk w then cl L S (bk l) (lE L l) (lE L l) (r - 2) else 0) = sJ (2 * L.1) (fun l => if lS L l = t ∧ S.testBit (l / 2) = false ∧ lW L l = true ∧ ¬ l = 18 then cl L S (bk l) (lE L l) (lE L l) (r - 2) else 0) := by
        refine sJ_congr _ (fun l hl => ?_)
        by_cases q : lS L l = t ∧ S.testBit (l / 2) = false ∧ lW L l = true
        · rw [if_pos ⟨q.1, q.2.1, q.2.2, fun v => ct (by rw [← q.1, v]; rfl)⟩, if_pos ⟨q.1, q.2.1, q.2.2, by omega⟩]
        · rw [if_neg (fun v => q ⟨v.1, v.2.1, v.2.2.1⟩), if_neg (fun v => q ⟨v.1, v.2.1, v.2.2.1⟩)]
      rw [e]
      grind
