/-! drift -/
theorem idiv {n m : Nat} (hn : n < 2 ^ 31) (hm : m < 2 ^ 31) : nI n / nI m = nI (n / m) := by
  have hd : n / m ≤ n := Nat.div_le_self n m
  apply Int32.toInt_inj.mp
  rw [Int32.toInt_div, nI_toInt hn, nI_toInt hm, nI_toInt (by omega)]
  rw [← Int.ofNat_tdiv]
  generalize n / m = q at hd ⊢
  exact Int.bmod_eq_of_le (by omega) (by omega)
theorem imod {n m : Nat} (hn : n < 2 ^ 31) (hm : m < 2 ^ 31) : nI n - nI n / nI m * nI m = nI (n % m) := by
  rw [idiv hn hm, pk_mul]
  have h1 := Nat.div_add_mod n m
  have h2 : n = n % m + n / m * m := by rw [Nat.mul_comm (n / m) m]; omega
  conv => lhs; rw [h2]
  rw [← nI_add, ← h2]
  simp
theorem rndb (y : BitVec 32) : y.sshiftRight 16 &&& 32767#32 = y >>> 16 &&& 32767#32 := by
  ext i hi
  rw [BitVec.getElem_and, BitVec.getElem_and, BitVec.getElem_sshiftRight]
  by_cases h : i < 16
  · have h2 : 16 + i < 32 := by omega
    rw [dif_pos h2]
    simp [BitVec.getLsbD_eq_getElem, h2]
  · have h3 : (32767#32)[i] = false := by
      rw [BitVec.getElem_eq_testBit_toNat]
      show Nat.testBit 32767 i = false
      refine Nat.testBit_lt_two_pow ?_
      calc 32767 < 2 ^ 16 := by decide
        _ ≤ 2 ^ i := Nat.pow_le_pow_right (by omega) (by omega)
    rw [h3, Bool.and_false, Bool.and_false]
theorem rnd (v : Int32) : (v >>> ((16 : Int32) &&& 31)) &&& (32767 : Int32) = (ushr v 16) &&& (32767 : Int32) := by
  apply Int32.toBitVec_inj.mp
  unfold ushr
  rw [show (16 : Int32) &&& 31 = 16 by decide, Int32.toBitVec_and, Int32.toBitVec_and, Int32.toBitVec_shiftRight]
  simp
  exact rndb _
theorem rnd_n (v : Int32) : ∃ n, n < 32768 ∧ (ushr v 16) &&& (32767 : Int32) = nI n := by
  refine ⟨((ushr v 16).toBitVec &&& 32767#32).toNat, ?_, ?_⟩
  · rw [BitVec.toNat_and]
    exact Nat.lt_of_le_of_lt Nat.and_le_right (by decide)
  · apply Int32.toBitVec_inj.mp
    rw [Int32.toBitVec_and]
    show _ = BitVec.ofNat 32 _
    rw [BitVec.ofNat_toNat, BitVec.setWidth_eq]
    rfl
