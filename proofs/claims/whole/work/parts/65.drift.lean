/-! drift -/
theorem idiv {n m : Nat} (hn : n < 2 ^ 31) (hm : m < 2 ^ 31) : nI n / nI m = nI (n / m) := by
  have hd : n / m ≤ n := Nat.div_le_self n m
  apply Int32.toInt_inj.mp
  rw [Int32.toInt_div, nI_toInt hn, nI_toInt hm, nI_toInt (by omega)]
  rw [← Int.ofNat_tdiv]
  generalize n / m = q at hd ⊢
  exact Int.bmod_eq_of_le (by omega) (by omega)
theorem imod {n m : Nat} (hn : n < 2 ^ 31) (hm : m < 2 ^ 31) : nI n - nI n / nI m * nI m = nI (n % m) := by
  rw [idiv hn hm, pk_mul]
  have h1 := Nat.div_add_mod n m
  have h2 : n = n % m + n / m * m := by rw [Nat.mul_comm (n / m) m]; omega
  conv => lhs; rw [h2]
  rw [← nI_add, ← h2]
  simp
