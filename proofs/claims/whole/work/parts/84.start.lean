/-! both objects are made: where all lies, what holds -/
theorem getD_ge {α : Type} {l : List α} {i : Nat} {d : α} (h : l.length ≤ i) : l.getD i d = d := by
  rw [List.getD_eq_getElem?_getD, List.getElem?_eq_none h]
  rfl
def s0 : Sg := zz276.2.2.2.1
def t0 : Sl := zz276.2.2.2.2
theorem zz_n : zz276.1 = 88 := by decide +kernel
theorem zz_sh : zz276.2.1 = sh0 := by
  funext k
  have h1 : ∀ k, k < 88 → zz276.2.1 k = sh0 k := by decide +kernel
  by_cases hk : k < 88
  · exact h1 k hk
  · rw [zf276.1 k (by rw [zz_n]; omega)]
    unfold sh0
    rw [getD_ge (show shL.length ≤ k from Nat.le_trans (show shL.length ≤ 88 by decide) (by omega))]
theorem rfL_len : ∀ k, k < 88 → (rfL.getD k []).length ≤ 64 := by decide +kernel
theorem zz_rf : zz276.2.2.1 = rf0 := by
  funext k j
  have h1 : ∀ k, k < 88 → ∀ j, j < 64 → zz276.2.2.1 k j = rf0 k j := by decide +kernel
  by_cases hk : k < 88
  · by_cases hj : j < 64
    · exact h1 k hk j hj
    · rw [zf276.2 k j (Or.inr (by omega))]
      unfold rf0
      rw [getD_ge (show (rfL.getD k []).length ≤ j from Nat.le_trans (rfL_len k hk) (by omega))]
  · rw [zf276.2 k j (Or.inl (by rw [zz_n]; omega))]
    unfold rf0
    rw [getD_ge (show rfL.length ≤ k from Nat.le_trans (show rfL.length ≤ 88 by decide) (by omega))]
    rfl
theorem zz_mk : zz276 = mk s0 t0 := by
  have : zz276 = (zz276.1, zz276.2.1, zz276.2.2.1, zz276.2.2.2.1, zz276.2.2.2.2) := rfl
  rw [this, zz_n, zz_sh, zz_rf]
  rfl
theorem gOf_P0 (c : Nat) : gOf P0 c = 0 := gOf_none (fun j hj => absurd hj (Nat.not_lt_zero _)) (fun j hj => absurd hj (Nat.not_lt_zero _))
theorem inv0 : Inv s0 := by
  refine ⟨P0, fun _ => P0, ⟨by decide +kernel, by decide +kernel, by decide +kernel, by decide +kernel, fun i hi => absurd hi (Nat.not_lt_zero _), fun i hi => absurd hi (Nat.not_lt_zero _), fun i hi => absurd hi (Nat.not_lt_zero _), fun i hi => absurd hi (Nat.not_lt_zero _), fun c hc => ?_⟩, ?_, by decide +kernel, ⟨P0_ok, fun i hi => absurd hi (Nat.not_lt_zero _)⟩, fun k hk => Or.inl ?_, ⟨0, by omega, by decide +kernel, by decide +kernel, fun i hi => absurd hi (Nat.not_lt_zero _)⟩, ⟨0, by omega, by decide +kernel, by decide +kernel, fun i hi => absurd hi (Nat.not_lt_zero _)⟩, by decide +kernel, by decide +kernel, fun k hk => ⟨0, 0, by omega, by omega, ?_⟩, ?_⟩
  · have h : ∀ c, c < 100 → s0 9 c = -1 := by decide +kernel
    rw [gOf_P0]
    exact h c hc
  · have h : ∀ k, k < 41 → s0 76 (0 + k) = nI 0 := by decide +kernel
    exact h
  · have h : ∀ k, k < 2 → s0 35 k = 0 ∧ s0 84 k = 0 := by decide +kernel
    exact h k hk
  · have h : ∀ k, k < 4 → s0 (67 + 2 * k) 0 = -1 ∧ s0 85 k = -4 ∧ s0 (67 + 2 * k) 1 = 0 ∧ s0 86 k = 0 ∧ ∀ j, j < 40 → s0 (67 + 2 * k + 1) j = s0 87 (40 * k + j) := by decide +kernel
    exact h k hk
  · exact ⟨by decide +kernel, by decide +kernel⟩
