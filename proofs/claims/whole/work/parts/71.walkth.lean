/-! sequences of numbers of ways -/
theorem sJ_add {f g : Nat → Int64} : ∀ n, sJ n (fun i => f i + g i) = sJ n f + sJ n g
  | 0 => rfl
  | n + 1 => by
    show sJ n (fun i => f i + g i) + (f n + g n) = (sJ n f + f n) + (sJ n g + g n)
    rw [sJ_add n]
    grind
theorem sJ_mulr {f : Nat → Int64} {c : Int64} : ∀ n, sJ n f * c = sJ n (fun i => f i * c)
  | 0 => by show (0 : Int64) * c = 0; rw [Int64.zero_mul]
  | n + 1 => by
    show (sJ n f + f n) * c = sJ n (fun i => f i * c) + f n * c
    rw [Int64.add_mul, sJ_mulr n]
theorem sJ_mull {f : Nat → Int64} {c : Int64} : ∀ n, c * sJ n f = sJ n (fun i => c * f i)
  | 0 => by show c * (0 : Int64) = 0; rw [Int64.mul_zero]
  | n + 1 => by
    show c * (sJ n f + f n) = sJ n (fun i => c * f i) + c * f n
    rw [Int64.mul_add, sJ_mull n]
theorem sJ_swap {F : Nat → Nat → Int64} {m : Nat} : ∀ n, sJ n (fun i => sJ m (fun j => F i j)) = sJ m (fun j => sJ n (fun i => F i j))
  | 0 => (sJ_zero m (fun _ _ => rfl)).symm
  | n + 1 => by
    show sJ n (fun i => sJ m (fun j => F i j)) + sJ m (fun j => F n j) = sJ m (fun j => sJ n (fun i => F i j) + F n j)
    rw [sJ_swap n, sJ_add]
theorem sJ_front {f : Nat → Int64} : ∀ n, sJ (n + 1) f = f 0 + sJ n (fun i => f (i + 1))
  | 0 => by show 0 + f 0 = f 0 + 0; grind
  | n + 1 => by
    show sJ (n + 1) f + f (n + 1) = f 0 + (sJ n (fun i => f (i + 1)) + f (n + 1))
    rw [sJ_front n]
    grind
theorem sJ_tri {F : Nat → Nat → Int64} : ∀ n, sJ (n + 1) (fun k => sJ (k + 1) (fun j => F j k)) = sJ (n + 1) (fun j => sJ (n - j + 1) (fun i => F j (j + i)))
  | 0 => rfl
  | n + 1 => by
    show sJ (n + 1) (fun k => sJ (k + 1) (fun j => F j k)) + sJ (n + 2) (fun j => F j (n + 1)) = sJ (n + 1) (fun j => sJ (n + 1 - j + 1) (fun i => F j (j + i))) + sJ (n + 1 - (n + 1) + 1) (fun i => F (n + 1) (n + 1 + i))
    rw [sJ_tri n]
    have e : sJ (n + 1) (fun j => sJ (n + 1 - j + 1) (fun i => F j (j + i))) = sJ (n + 1) (fun j => sJ (n - j + 1) (fun i => F j (j + i))) + sJ (n + 1) (fun j => F j (n + 1)) := by
      rw [← sJ_add]
      refine sJ_congr _ (fun j hj => ?_)
      rw [show n + 1 - j = (n - j) + 1 by omega]
      show sJ (n - j + 1) (fun i => F j (j + i)) + F j (j + (n - j + 1)) = _
      rw [show j + (n - j + 1) = n + 1 by omega]
    rw [e, show n + 1 - (n + 1) + 1 = 1 by omega]
    show _ + (sJ (n + 1) (fun j => F j (n + 1)) + F (n + 1) (n + 1)) = _ + (0 + F (n + 1) (n + 1 + 0))
    rw [Nat.add_zero]
    grind
def cv (f g : Nat → Int64) (n : Nat) : Int64 := sJ (n + 1) (fun k => f k * g (n - k))
def sf (f : Nat → Int64) (n : Nat) : Int64 := if n = 0 then 0 else f (n - 1)
def dl0 (n : Nat) : Int64 := if n = 0 then 1 else 0
theorem cv_congr {f g f' g' : Nat → Int64} {n : Nat} (h1 : ∀ k, k ≤ n → f k = f' k) (h2 : ∀ k, k ≤ n → g k = g' k) : cv f g n = cv f' g' n := sJ_congr _ (fun k hk => by rw [h1 k (by omega), h2 (n - k) (by omega)])
theorem cv_assoc {f g h : Nat → Int64} {n : Nat} : cv (cv f g) h n = cv f (cv g h) n := by
  unfold cv
  have e1 : sJ (n + 1) (fun k => sJ (k + 1) (fun j => f j * g (k - j)) * h (n - k)) = sJ (n + 1) (fun k => sJ (k + 1) (fun j => f j * g (k - j) * h (n - k))) := sJ_congr _ (fun k _ => sJ_mulr _)
  rw [e1, sJ_tri n]
  refine sJ_congr _ (fun j hj => ?_)
  show sJ (n - j + 1) (fun i => f j * g (j + i - j) * h (n - (j + i))) = f j * sJ (n - j + 1) (fun k => g k * h (n - j - k))
  rw [sJ_mull]
  refine sJ_congr _ (fun i hi => ?_)
  rw [show j + i - j = i by omega, show n - (j + i) = n - j - i by omega, Int64.mul_assoc]
theorem cv_addl {f f' g : Nat → Int64} {n : Nat} : cv (fun k => f k + f' k) g n = cv f g n + cv f' g n := by
  unfold cv
  rw [← sJ_add]
  exact sJ_congr _ (fun k _ => Int64.add_mul)
theorem cv_addr {f g g' : Nat → Int64} {n : Nat} : cv f (fun k => g k + g' k) n = cv f g n + cv f g' n := by
  unfold cv
  rw [← sJ_add]
  exact sJ_congr _ (fun k _ => Int64.mul_add)
theorem cv_suml {m : Nat} {F : Nat → Nat → Int64} {g : Nat → Int64} {n : Nat} : cv (fun k => sJ m (fun i => F i k)) g n = sJ m (fun i => cv (F i) g n) := by
  unfold cv
  rw [← sJ_swap (F := fun k i => F i k * g (n - k)) (n + 1)]
  exact sJ_congr _ (fun k _ => sJ_mulr _)
theorem cv_sumr {m : Nat} {F : Nat → Nat → Int64} {g : Nat → Int64} {n : Nat} : cv g (fun k => sJ m (fun i => F i k)) n = sJ m (fun i => cv g (F i) n) := by
  unfold cv
  rw [← sJ_swap (F := fun k i => g k * F i (n - k)) (n + 1)]
  exact sJ_congr _ (fun k _ => sJ_mull _)
theorem cv_sfl {f g : Nat → Int64} {n : Nat} : cv (sf f) g n = sf (cv f g) n := by
  cases n with
  | zero =>
    show 0 + sf f 0 * g (0 - 0) = 0
    show 0 + 0 * g (0 - 0) = 0
    grind
  | succ n =>
    unfold cv
    rw [sJ_front]
    show 0 * g (n + 1 - 0) + sJ (n + 1) (fun i => sf f (i + 1) * g (n + 1 - (i + 1))) = sJ (n + 1) (fun k => f k * g (n - k))
    rw [Int64.zero_mul, Int64.zero_add]
    refine sJ_congr _ (fun i _ => ?_)
    rw [show n + 1 - (i + 1) = n - i by omega]
    rfl
theorem cv_sfr {f g : Nat → Int64} {n : Nat} : cv f (sf g) n = sf (cv f g) n := by
  cases n with
  | zero =>
    show 0 + f 0 * 0 = 0
    grind
  | succ n =>
    show sJ (n + 1) (fun k => f k * sf g (n + 1 - k)) + f (n + 1) * sf g (n + 1 - (n + 1)) = sJ (n + 1) (fun k => f k * g (n - k))
    rw [show n + 1 - (n + 1) = 0 by omega]
    show _ + f (n + 1) * 0 = _
    rw [Int64.mul_zero, Int64.add_zero]
    refine sJ_congr _ (fun k hk => ?_)
    show f k * (if n + 1 - k = 0 then 0 else g (n + 1 - k - 1)) = _
    rw [if_neg (by omega), show n + 1 - k - 1 = n - k by omega]
theorem cv_d0l {g : Nat → Int64} {n : Nat} : cv dl0 g n = g n := by
  unfold cv
  rw [sJ_front]
  have : sJ n (fun i => dl0 (i + 1) * g (n - (i + 1))) = 0 := sJ_zero _ (fun i _ => by show 0 * _ = 0; rw [Int64.zero_mul])
  rw [this]
  show 1 * g (n - 0) + 0 = g n
  rw [Nat.sub_zero]
  grind
theorem cv_zl {g : Nat → Int64} {n : Nat} : cv (fun _ => 0) g n = 0 := sJ_zero _ (fun _ _ => Int64.zero_mul)
theorem cv_zr {f : Nat → Int64} {n : Nat} : cv f (fun _ => 0) n = 0 := sJ_zero _ (fun _ _ => Int64.mul_zero)
theorem sf_add {f g : Nat → Int64} {n : Nat} : sf (fun k => f k + g k) n = sf f n + sf g n := by
  unfold sf
  split
  · rfl
  · rfl
theorem sf_sum {m : Nat} {F : Nat → Nat → Int64} {n : Nat} : sf (fun k => sJ m (fun i => F i k)) n = sJ m (fun i => sf (F i) n) := by
  unfold sf
  split
  · rename_i h
    exact (sJ_zero _ (fun i _ => rfl)).symm
  · rename_i h
    exact sJ_congr _ (fun i _ => rfl)
theorem sf_z {n : Nat} : sf (fun _ => 0) n = 0 := by unfold sf; split <;> rfl
/-- a sum over what is chosen -/
def sI (n : Nat) (P : Nat → Bool) (f : Nat → Int64) : Int64 := sJ n (fun i => if P i = true then f i else 0)
theorem sI_congr {n : Nat} {P : Nat → Bool} {f g : Nat → Int64} (h : ∀ i, i < n → P i = true → f i = g i) : sI n P f = sI n P g := sJ_congr _ (fun i hi => by
  by_cases c : P i = true
  · rw [if_pos c, if_pos c, h i hi c]
  · rw [if_neg c, if_neg c])
theorem sI_add {n : Nat} {P : Nat → Bool} {f g : Nat → Int64} : sI n P (fun i => f i + g i) = sI n P f + sI n P g := by
  unfold sI
  rw [← sJ_add]
  refine sJ_congr _ (fun i _ => ?_)
  split
  · rfl
  · rw [Int64.add_zero]
theorem sI_swap {n m : Nat} {P Q : Nat → Bool} {F : Nat → Nat → Int64} : sI n P (fun i => sI m Q (fun j => F i j)) = sI m Q (fun j => sI n P (fun i => F i j)) := by
  unfold sI
  have e1 : sJ n (fun i => if P i = true then sJ m (fun j => if Q j = true then F i j else 0) else 0) = sJ n (fun i => sJ m (fun j => if P i = true then (if Q j = true then F i j else 0) else 0)) := sJ_congr _ (fun i _ => by
    split
    · rfl
    · exact (sJ_zero _ (fun _ _ => rfl)).symm)
  have e2 : sJ m (fun j => if Q j = true then sJ n (fun i => if P i = true then F i j else 0) else 0) = sJ m (fun j => sJ n (fun i => if P i = true then (if Q j = true then F i j else 0) else 0)) := sJ_congr _ (fun j _ => by
    split
    · rfl
    · refine (sJ_zero _ (fun i _ => ?_)).symm
      split <;> rfl)
  rw [e1, e2, sJ_swap]
theorem sI_cvl {m : Nat} {P : Nat → Bool} {F : Nat → Nat → Int64} {g : Nat → Int64} {n : Nat} : cv (fun k => sI m P (fun i => F i k)) g n = sI m P (fun i => cv (F i) g n) := by
  unfold sI
  rw [cv_suml]
  refine sJ_congr _ (fun i _ => ?_)
  split
  · rfl
  · exact cv_zl
theorem sI_cvr {m : Nat} {P : Nat → Bool} {F : Nat → Nat → Int64} {g : Nat → Int64} {n : Nat} : cv g (fun k => sI m P (fun i => F i k)) n = sI m P (fun i => cv g (F i) n) := by
  unfold sI
  rw [cv_sumr]
  refine sJ_congr _ (fun i _ => ?_)
  split
  · rfl
  · exact cv_zr
theorem sI_sf {m : Nat} {P : Nat → Bool} {F : Nat → Nat → Int64} {n : Nat} : sf (fun k => sI m P (fun i => F i k)) n = sI m P (fun i => sf (F i) n) := by
  unfold sI
  rw [sf_sum]
  refine sJ_congr _ (fun i _ => ?_)
  split
  · rfl
  · exact sf_z
theorem cv_2 {f g : Nat → Int64} {n : Nat} (h0 : f 0 = 0) (h1 : f 1 = 0) : cv f g (n + 1) = sJ n (fun k => f (k + 2) * g (n - 1 - k)) := by
  unfold cv
  rw [sJ_front, h0, Int64.zero_mul, Int64.zero_add, sJ_front]
  show f 1 * _ + _ = _
  rw [h1, Int64.zero_mul, Int64.zero_add]
  refine sJ_congr _ (fun k hk => ?_)
  rw [show n + 1 - (k + 1 + 1) = n - 1 - k by omega]
theorem cv_2r {f g : Nat → Int64} {n : Nat} (h0 : g 0 = 0) (h1 : g 1 = 0) : cv f g (n + 1) = sJ n (fun k => f k * g (n + 1 - k)) := by
  unfold cv
  show sJ n (fun k => f k * g (n + 1 - k)) + f n * g (n + 1 - n) + f (n + 1) * g (n + 1 - (n + 1)) = _
  rw [show n + 1 - n = 1 by omega, show n + 1 - (n + 1) = 0 by omega, h0, h1]
  grind
/-- from the one side as from the other -/
theorem lr_eq {m : Nat} {P : Nat → Bool} {s e : Nat → Nat} {C : Nat → Nat → Nat → Int64} {A : Nat → Nat → Int64}
    (hA : ∀ t, A t 0 = 0)
    (hC : ∀ n a b, C a b n = (if a = b then dl0 n else 0) + sI m (fun l => P l && decide (s l = a)) (fun l => sf (C (e l) b) n) + cv (A a) (C a b) n) :
    ∀ n a b, C a b n = (if a = b then dl0 n else 0) + sI m (fun l => P l && decide (e l = b)) (fun l => sf (C a (s l)) n) + cv (C a b) (A b) n := by
  have rec_ : ∀ n a b, (if a = b then dl0 n else 0) + sI m (fun l => P l && decide (e l = b)) (fun l => sf (C a (s l)) n) + cv (C a b) (A b) n = (if a = b then dl0 n else 0) + sI m (fun l => P l && decide (s l = a)) (fun l => sf (fun k => (if e l = b then dl0 k else 0) + sI m (fun l' => P l' && decide (e l' = b)) (fun l' => sf (C (e l) (s l')) k) + cv (C (e l) b) (A b) k) n) + cv (A a) (fun k => (if a = b then dl0 k else 0) + sI m (fun l' => P l' && decide (e l' = b)) (fun l' => sf (C a (s l')) k) + cv (C a b) (A b) k) n := by
    intro n a b
    have x1 : sI m (fun l => P l && decide (e l = b)) (fun l => sf (C a (s l)) n) = sI m (fun l => P l && decide (e l = b)) (fun l => sf (fun k => if a = s l then dl0 k else 0) n) + sI m (fun l => P l && decide (e l = b)) (fun l => sI m (fun l' => P l' && decide (s l' = a)) (fun l' => sf (sf (C (e l') (s l))) n)) + sI m (fun l => P l && decide (e l = b)) (fun l => sf (cv (A a) (C a (s l))) n) := by
      rw [← sI_add, ← sI_add]
      refine sI_congr (fun l _ _ => ?_)
      have := funext (fun k => hC k a (s l))
      conv => lhs; rw [show C a (s l) = fun k => C a (s l) k from rfl, this]
      rw [sf_add, sf_add, sI_sf]
    have x2 : cv (C a b) (A b) n = cv (fun k => if a = b then dl0 k else 0) (A b) n + sI m (fun l => P l && decide (s l = a)) (fun l => sf (cv (C (e l) b) (A b)) n) + cv (A a) (cv (C a b) (A b)) n := by
      have := funext (fun k => hC k a b)
      rw [show C a b = fun k => C a b k from rfl, this, cv_addl, cv_addl, sI_cvl, ← this, cv_assoc]
      congr 2
      exact sI_congr (fun l _ _ => cv_sfl)
    have y1 : sI m (fun l => P l && decide (s l = a)) (fun l => sf (fun k => (if e l = b then dl0 k else 0) + sI m (fun l' => P l' && decide (e l' = b)) (fun l' => sf (C (e l) (s l')) k) + cv (C (e l) b) (A b) k) n) = sI m (fun l => P l && decide (s l = a)) (fun l => sf (fun k => if e l = b then dl0 k else 0) n) + sI m (fun l => P l && decide (s l = a)) (fun l => sI m (fun l' => P l' && decide (e l' = b)) (fun l' => sf (sf (C (e l) (s l'))) n)) + sI m (fun l => P l && decide (s l = a)) (fun l => sf (cv (C (e l) b) (A b)) n) := by
      rw [← sI_add, ← sI_add]
      refine sI_congr (fun l _ _ => ?_)
      rw [sf_add, sf_add, sI_sf]
    have y2 : cv (A a) (fun k => (if a = b then dl0 k else 0) + sI m (fun l' => P l' && decide (e l' = b)) (fun l' => sf (C a (s l')) k) + cv (C a b) (A b) k) n = cv (A a) (fun k => if a = b then dl0 k else 0) n + sI m (fun l => P l && decide (e l = b)) (fun l => sf (cv (A a) (C a (s l))) n) + cv (A a) (cv (C a b) (A b)) n := by
      rw [cv_addr, cv_addr, sI_cvr]
      congr 2
      exact sI_congr (fun l _ _ => cv_sfr)
    have z1 : sI m (fun l => P l && decide (e l = b)) (fun l => sf (fun k => if a = s l then dl0 k else 0) n) = sI m (fun l => P l && decide (s l = a)) (fun l => sf (fun k => if e l = b then dl0 k else 0) n) := by
      unfold sI
      refine sJ_congr _ (fun l _ => ?_)
      by_cases p : P l = true
      · by_cases c1 : e l = b
        · by_cases c2 : s l = a
          · simp [p, c1, c2]
          · simp [p, c1, c2, show ¬ a = s l from fun w => c2 w.symm, sf_z]
        · by_cases c2 : s l = a
          · simp [p, c1, c2, sf_z]
          · simp [p, c1, c2]
      · simp [p]
    have z2 : cv (fun k => if a = b then dl0 k else 0) (A b) n = cv (A a) (fun k => if a = b then dl0 k else 0) n := by
      by_cases c : a = b
      · subst c
        simp only [if_true]
        rw [show cv (fun k => dl0 k) (A a) n = A a n from cv_d0l]
        unfold cv
        show _ = sJ n (fun k => A a k * dl0 (n - k)) + A a n * dl0 (n - n)
        rw [sJ_zero n (fun k hk => by show A a k * (if n - k = 0 then 1 else 0) = 0; rw [if_neg (by omega), Int64.mul_zero]), Nat.sub_self]
        show _ = 0 + A a n * 1
        grind
      · simp only [if_neg c]
        rw [cv_zl, cv_zr]
    rw [x1, x2, y1, y2, z1, z2, sI_swap]
    grind
  intro n
  induction n using Nat.strongRecOn with
  | ind n ih =>
    intro a b
    rw [rec_ n a b, hC n a b]
    congr 1
    · congr 1
      refine sI_congr (fun l _ _ => ?_)
      unfold sf
      split
      · rfl
      · exact ih (n - 1) (by omega) (e l) b
    · unfold cv
      refine sJ_congr _ (fun k hk => ?_)
      by_cases c : k = 0
      · rw [c, hA, Int64.zero_mul, Int64.zero_mul]
      · rw [show C a b (n - k) = _ from ih (n - k) (by omega) a b]
        rfl
