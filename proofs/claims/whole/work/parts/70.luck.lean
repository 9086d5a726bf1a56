/-! turns the other way: the sums -/
/-- what a run is worth, over all ways to turn in n rows: a: of the peg on which it rests (1 + its number), y: of each that it meets -/
def EE (g : Nat → Nat) (k v : Nat) (a : Nat → Nat) (y : Nat) : Nat → Nat → Nat → Nat → Nat
  | 0, _, _, _ => 0
  | n + 1, row, c, sp =>
    if g (10 * row + c) = 1 then 0
    else if g (10 * row + c) = 0 then 10 * EE g k v a y n (row + 1) c sp
    else if sp ≤ lose k then 10 ^ (n + 1) * (a (g (10 * row + c) - 1) + y)
    else 10 ^ (n + 1) * y + ((10 - v) * EE g k v a y n (row + 1) (tcol k row c false) (sp - lose k) + v * EE g k v a y n (row + 1) (tcol k row c true) (sp - lose k))
theorem EE_le {g : Nat → Nat} {k v y : Nat} {a : Nat → Nat} (hv : v ≤ 10) (ha : ∀ p, a p ≤ 1) : ∀ n row c sp, EE g k v a y n row c sp ≤ 10 ^ n * (1 + n * y) := by
  intro n
  induction n with
  | zero => intro row c sp; exact Nat.zero_le _
  | succ n ih =>
    intro row c sp
    have e1 : 10 ^ (n + 1) * (1 + (n + 1) * y) = 10 * (10 ^ n * (1 + n * y)) + 10 ^ (n + 1) * y := by
      rw [Nat.pow_succ, Nat.add_mul n 1 y]
      generalize 10 ^ n = X
      generalize n * y = Z
      rw [Nat.one_mul]
      rw [Nat.mul_add, Nat.mul_add, Nat.mul_add, Nat.mul_add]
      have e1 : X * 10 * Z = 10 * (X * Z) := by rw [Nat.mul_comm X 10, Nat.mul_assoc]
      omega
    unfold EE
    split
    · exact Nat.zero_le _
    · split
      · have := ih (row + 1) c sp
        rw [e1]
        omega
      · split
        · refine Nat.mul_le_mul_left _ ?_
          have := ha (g (10 * row + c) - 1)
          have h2 : y ≤ (n + 1) * y := by
            rw [Nat.add_mul]; omega
          omega
        · have h1 := ih (row + 1) (tcol k row c false) (sp - lose k)
          have h2 := ih (row + 1) (tcol k row c true) (sp - lose k)
          rw [e1]
          generalize EE g k v a y n (row + 1) (tcol k row c false) (sp - lose k) = A at h1
          generalize EE g k v a y n (row + 1) (tcol k row c true) (sp - lose k) = B at h2
          generalize 10 ^ n * (1 + n * y) = Z at h1 h2
          have q1 : (10 - v) * A ≤ (10 - v) * Z := Nat.mul_le_mul_left _ h1
          have q2 : v * B ≤ v * Z := Nat.mul_le_mul_left _ h2
          have q3 : (10 - v) * Z + v * Z = 10 * Z := by rw [← Nat.add_mul]; congr 1; omega
          omega
/-- the weight of an order of turns -/
def pr (v s : Nat) : Nat → Nat
  | 0 => 1
  | n + 1 => pr v s n * (if s.testBit n = true then v else 10 - v)
theorem tb0 (s : Nat) (b : Bool) : (2 * s + b.toNat).testBit 0 = b := by
  rw [Nat.testBit_zero]
  cases b <;> simp <;> omega
theorem tbs (s n : Nat) (b : Bool) : (2 * s + b.toNat).testBit (n + 1) = s.testBit n := by
  rw [Nat.testBit_succ]
  congr 1
  cases b <;> simp <;> omega
theorem pr_head (v s : Nat) (b : Bool) : ∀ n, pr v (2 * s + b.toNat) (n + 1) = (if b = true then v else 10 - v) * pr v s n := by
  intro n
  induction n with
  | zero =>
    show 1 * (if (2 * s + b.toNat).testBit 0 = true then v else 10 - v) = _ * 1
    rw [tb0, Nat.one_mul, Nat.mul_one]
  | succ n ih =>
    show pr v (2 * s + b.toNat) (n + 1) * (if (2 * s + b.toNat).testBit (n + 1) = true then v else 10 - v) = _ * (pr v s n * (if s.testBit n = true then v else 10 - v))
    rw [ih, tbs, Nat.mul_assoc]
theorem sm_s (f : Nat → Nat) (n : Nat) : sm f (n + 1) = sm f n + f n := rfl
theorem sm_two (f : Nat → Nat) : ∀ n, sm f (2 * n) = sm (fun s => f (2 * s) + f (2 * s + 1)) n := by
  intro n
  induction n with
  | zero => rfl
  | succ n ih =>
    rw [show 2 * (n + 1) = 2 * n + 1 + 1 by omega, sm_s, sm_s, ih, sm_s]
    omega
theorem sm_congr {f h : Nat → Nat} {n : Nat} (e : ∀ i, i < n → f i = h i) : sm f n = sm h n := by
  induction n with
  | zero => rfl
  | succ n ih => rw [sm_s, sm_s, ih (fun i hi => e i (by omega)), e n (by omega)]
theorem sm_add (f h : Nat → Nat) : ∀ n, sm (fun i => f i + h i) n = sm f n + sm h n := by
  intro n
  induction n with
  | zero => rfl
  | succ n ih => rw [sm_s, sm_s, sm_s, ih]; omega
theorem sm_mul (x : Nat) (f : Nat → Nat) : ∀ n, sm (fun i => x * f i) n = x * sm f n := by
  intro n
  induction n with
  | zero => rfl
  | succ n ih => rw [sm_s, sm_s, ih, Nat.mul_add]
theorem sm_mulr (x : Nat) (f : Nat → Nat) (n : Nat) : sm (fun i => f i * x) n = sm f n * x := by
  rw [Nat.mul_comm, ← sm_mul]
  exact sm_congr (fun i _ => Nat.mul_comm _ _)
/-- sums by the lowest bit -/
theorem sm_head (v : Nat) (F : Nat → Nat) (n : Nat) : sm (fun s => pr v s (n + 1) * F s) (2 ^ (n + 1)) = (10 - v) * sm (fun s => pr v s n * F (2 * s)) (2 ^ n) + v * sm (fun s => pr v s n * F (2 * s + 1)) (2 ^ n) := by
  rw [show 2 ^ (n + 1) = 2 * 2 ^ n by rw [Nat.pow_succ, Nat.mul_comm], sm_two, sm_add]
  congr 1
  · rw [← sm_mul]
    refine sm_congr (fun s _ => ?_)
    have := pr_head v s false n
    simp at this
    rw [this, Nat.mul_assoc]
  · rw [← sm_mul]
    refine sm_congr (fun s _ => ?_)
    have := pr_head v s true n
    simp at this
    rw [this, Nat.mul_assoc]
theorem mix {v : Nat} (hv : v ≤ 10) (x : Nat) : (10 - v) * x + v * x = 10 * x := by
  rw [← Nat.add_mul]
  congr 1
  omega
theorem pr_all {v : Nat} (hv : v ≤ 10) : ∀ n, sm (fun s => pr v s n) (2 ^ n) = 10 ^ n := by
  intro n
  induction n with
  | zero => rfl
  | succ n ih =>
    have := sm_head v (fun _ => 1) n
    simp only [Nat.mul_one] at this
    rw [this, ih, mix hv, Nat.pow_succ, Nat.mul_comm]
theorem go_congr {g : Nat → Nat} {k : Nat} {o o' : Nat → Bool} : ∀ n row c sp m, (∀ r, row ≤ r → o r = o' r) → go g k o n row c sp m = go g k o' n row c sp m := by
  intro n
  induction n with
  | zero => intro row c sp m _; rfl
  | succ n ih =>
    intro row c sp m h
    unfold go
    rw [h row (Nat.le_refl _), ih _ _ _ _ (fun r hr => h r (by omega)), ih _ _ _ _ (fun r hr => h r (by omega))]
theorem sum_go {g : Nat → Nat} {k v y : Nat} {a : Nat → Nat} (hv : v ≤ 10) (ha : a 0 = 0) : ∀ n row c sp m, sm (fun s => pr v s n * (a (go g k (fun r => s.testBit (r - row)) n row c sp m).1 + y * (go g k (fun r => s.testBit (r - row)) n row c sp m).2.2.1)) (2 ^ n) = y * m * 10 ^ n + EE g k v a y n row c sp := by
  intro n
  induction n with
  | zero =>
    intro row c sp m
    show sm _ 1 = _
    unfold sm sm pr go EE
    simp [ha]
  | succ n ih =>
    intro row c sp m
    have hb : ∀ (s : Nat) (b : Bool) c sp m, go g k (fun r => (2 * s + b.toNat).testBit (r - row)) n (row + 1) c sp m = go g k (fun r => s.testBit (r - (row + 1))) n (row + 1) c sp m := fun s b c sp m => go_congr _ _ _ _ _ (fun r hr => by
      rw [show r - row = (r - (row + 1)) + 1 by omega, tbs])
    have h0 : ∀ s : Nat, (2 * s).testBit (row - row) = false := fun s => by
      have := tb0 s false
      simp at this
      rw [Nat.sub_self]
      simp
    have h1 : ∀ s : Nat, (2 * s + 1).testBit (row - row) = true := fun s => by
      have := tb0 s true
      rw [Nat.sub_self]
      exact this
    rw [sm_head v (fun s => a (go g k (fun r => s.testBit (r - row)) (n + 1) row c sp m).1 + y * (go g k (fun r => s.testBit (r - row)) (n + 1) row c sp m).2.2.1) n]
    have hb0 : ∀ (s : Nat) c sp m, go g k (fun r => (2 * s).testBit (r - row)) n (row + 1) c sp m = go g k (fun r => s.testBit (r - (row + 1))) n (row + 1) c sp m := fun s c sp m => hb s false c sp m
    have hb1 : ∀ (s : Nat) c sp m, go g k (fun r => (2 * s + 1).testBit (r - row)) n (row + 1) c sp m = go g k (fun r => s.testBit (r - (row + 1))) n (row + 1) c sp m := fun s c sp m => hb s true c sp m
    unfold go EE
    by_cases v1 : g (10 * row + c) = 1
    · simp only [if_pos v1, sm_mulr, pr_all hv, mix hv, ha]
      rw [Nat.pow_succ, Nat.zero_add, Nat.add_zero, Nat.mul_comm (10 ^ n) (y * m), Nat.mul_comm (10 ^ n) 10, Nat.mul_left_comm]
    · by_cases v0 : g (10 * row + c) = 0
      · simp only [if_neg v1, if_pos v0, hb0, hb1, ih, mix hv]
        rw [Nat.mul_add, Nat.pow_succ, Nat.mul_comm (10 ^ n) 10, Nat.mul_left_comm]
      · by_cases hs : sp ≤ lose k
        · simp only [if_neg v1, if_neg v0, if_pos hs, sm_mulr, pr_all hv, mix hv]
          rw [Nat.pow_succ, Nat.mul_comm (10 ^ n) 10, Nat.mul_assoc 10]
          rw [Nat.mul_comm (y * m), Nat.mul_assoc 10, ← Nat.mul_add, ← Nat.mul_add, Nat.mul_add y m 1]
          congr 2
          omega
        · simp only [if_neg v1, if_neg v0, if_neg hs, hb0, hb1, h0, h1, ih]
          rw [Nat.mul_add (10 - v), Nat.mul_add v]
          have := mix hv (y * (m + 1) * 10 ^ n)
          have e2 : 10 * (y * (m + 1) * 10 ^ n) = y * m * 10 ^ (n + 1) + 10 ^ (n + 1) * y := by
            rw [Nat.pow_succ, Nat.mul_add y m 1, Nat.mul_one]
            generalize 10 ^ n = X
            rw [Nat.add_mul, Nat.mul_add]
            have t1 : 10 * (y * m * X) = y * m * (X * 10) := by rw [Nat.mul_comm 10, Nat.mul_assoc]
            have t2 : 10 * (y * X) = X * 10 * y := by rw [Nat.mul_comm y X, ← Nat.mul_assoc, Nat.mul_comm 10 X]
            omega
          omega
