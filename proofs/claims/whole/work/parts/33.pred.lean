-- which arguments are as told
theorem vin_iff {x : Int32} {n : Nat} : vp_in x n ↔ 0 ≤ x.toInt ∧ x.toInt < n := vp_in_iff
theorem vin_out {x : Int32} {n : Nat} (h : ¬ vp_in x n) : x.toInt < 0 ∨ (n : Int) ≤ x.toInt := by
  rw [vin_iff] at h
  omega
theorem lt0 {x : Int32} : x < 0 ↔ x.toInt < 0 := by rw [Int32.lt_iff_toInt_lt]; rfl
theorem nle_iff {x : Int32} {n : Nat} (hn : n < 2 ^ 31) : nI n ≤ x ↔ (n : Int) ≤ x.toInt := by rw [Int32.le_iff_toInt_le, nI_toInt hn]
theorem lnle_iff {x : Int32} {n : Nat} (hn : n < 2 ^ 31) : x < nI n ↔ x.toInt < (n : Int) := by rw [Int32.lt_iff_toInt_lt, nI_toInt hn]
theorem nlt_iff {x : Int32} {n : Nat} (hn : n < 2 ^ 31) : nI n < x ↔ (n : Int) < x.toInt := by rw [Int32.lt_iff_toInt_lt, nI_toInt hn]
/-- a test 0 <= x < n, as the class does it -/
theorem xtest {x y : Int32} {n : Nat} (hy : y = nI n) (hn : n < 2 ^ 31) : (vp_in x n → (if x < 0 then (0 : Int32) else if y ≤ x then 0 else 1) = 1) ∧ (¬ vp_in x n → (if x < 0 then (0 : Int32) else if y ≤ x then 0 else 1) = 0) := by
  subst hy
  constructor
  · intro h
    rw [vin_iff] at h
    rw [if_neg (by rw [lt0]; omega), if_neg (by rw [nle_iff hn]; omega)]
  · intro h
    rcases vin_out h with h | h
    · rw [if_pos (by rw [lt0]; exact h)]
    · rw [if_neg (by rw [lt0]; omega), if_pos (by rw [nle_iff hn]; exact h)]
theorem xPeg {b : Nat} {σ : Sg} {x : Int32} {n : Nat} (hn : σ b 2 = nI n) (hl : n < 2 ^ 31) : (vp_in x n → f_X7_isPeg b x σ = 1) ∧ (¬ vp_in x n → f_X7_isPeg b x σ = 0) := xtest hn hl
theorem xSlug {b : Nat} {σ : Sg} {x : Int32} {n : Nat} (hn : σ b 4 = nI n) (hl : n < 2 ^ 31) : (vp_in x n → f_X7_isSlug b x σ = 1) ∧ (¬ vp_in x n → f_X7_isSlug b x σ = 0) := xtest hn hl
theorem xHog {b : Nat} {σ : Sg} {x : Int32} {n : Nat} (hn : σ b 7 = nI n) (hl : n < 2 ^ 31) : (vp_in x n → f_X7_isHedgehog b x σ = 1) ∧ (¬ vp_in x n → f_X7_isHedgehog b x σ = 0) := xtest hn hl
theorem xSuit {b : Nat} {σ : Sg} {x : Int32} {n : Nat} (hn : σ b 10 = nI n) (hl : n < 2 ^ 31) : (vp_in x n → f_X7_isSuit b x σ = 1) ∧ (¬ vp_in x n → f_X7_isSuit b x σ = 0) := xtest hn hl
theorem xCol {x : Int32} : (vp_in x 8 → f_X7_isColumn x = 1) ∧ (¬ vp_in x 8 → f_X7_isColumn x = 0) := xtest (n := 8) rfl (by omega)
theorem xRag {x : Int32} : (vp_in x 4 → f_X9_isRag x = 1) ∧ (¬ vp_in x 4 → f_X9_isRag x = 0) := xtest (n := 4) rfl (by omega)
theorem xImage {x : Int32} : (vp_in x 2 → f_X9_isImage x = 1) ∧ (¬ vp_in x 2 → f_X9_isImage x = 0) := xtest (n := 2) rfl (by omega)
theorem xSheet {x : Int32} : (vp_in x 4 → f_X9_isSheet x = 1) ∧ (¬ vp_in x 4 → f_X9_isSheet x = 0) := xtest (n := 4) rfl (by omega)
theorem xLane {x : Int32} : (vp_in x 3 → f_X9_isLane x = 1) ∧ (¬ vp_in x 3 → f_X9_isLane x = 0) := xtest (n := 3) rfl (by omega)
theorem i32_eq {x : Int32} {n : Nat} (hn : n < 2 ^ 31) : x = nI n ↔ x.toInt = n := by
  constructor
  · intro h; rw [h, nI_toInt hn]
  · intro h; exact Int32.toInt_inj.mp (by rw [nI_toInt hn]; exact h)
theorem xHalf {x : Int32} : (vp_in x 2 → f_X9_isHalf x = 1) ∧ (¬ vp_in x 2 → f_X9_isHalf x = 0) := by
  unfold f_X9_isHalf
  constructor
  · intro h
    obtain ⟨j, hj, rfl⟩ := vp_in_of h (by omega)
    rcases (show j = 0 ∨ j = 1 by omega) with rfl | rfl <;> decide
  · intro h
    have h0 : ¬ x = 0 := fun e => h (by rw [e]; exact vp_in_nI (n := 0) (by omega) (by omega))
    have h1 : ¬ x = 1 := fun e => h (by rw [e]; exact vp_in_nI (n := 1) (by omega) (by omega))
    simp [h0, h1]
theorem xTen {x : Int32} : (vp_in x 11 → f_X9_isOutOfTen x = 1) ∧ (¬ vp_in x 11 → f_X9_isOutOfTen x = 0) := by
  unfold f_X9_isOutOfTen
  constructor
  · intro h
    rw [vin_iff] at h
    rw [if_neg (by rw [lt0]; omega), if_neg (by rw [show (10 : Int32) = nI 10 from rfl, nlt_iff (by omega)]; omega)]
  · intro h
    rcases vin_out h with h | h
    · rw [if_pos (by rw [lt0]; exact h)]
    · rw [if_neg (by rw [lt0]; omega), if_pos (by rw [show (10 : Int32) = nI 10 from rfl, nlt_iff (by omega)]; omega)]
/-- 'in' of the reference -/
theorem mIn {x : Int32} {lo hi : Int64} {l h : Int} (hl : lo.toInt = l) (hh : hi.toInt = h) : (l ≤ x.toInt ∧ x.toInt ≤ h → f_X10_in x.toInt64 lo hi = 1) ∧ (¬ (l ≤ x.toInt ∧ x.toInt ≤ h) → f_X10_in x.toInt64 lo hi = 0) := by
  unfold f_X10_in
  have e : x.toInt64.toInt = x.toInt := Int32.toInt_toInt64 x
  constructor
  · intro hx
    rw [if_neg (by rw [lg_cmp_lt, Int64.lt_iff_toInt_lt, e, hl]; omega), if_neg (by rw [lg_cmp_gt, Int64.lt_iff_toInt_lt, e, hh]; omega)]
  · intro hx
    by_cases h1 : x.toInt < l
    · rw [if_pos (by rw [lg_cmp_lt, Int64.lt_iff_toInt_lt, e, hl]; exact h1)]
    · rw [if_neg (by rw [lg_cmp_lt, Int64.lt_iff_toInt_lt, e, hl]; exact h1), if_pos (by rw [lg_cmp_gt, Int64.lt_iff_toInt_lt, e, hh]; omega)]
theorem mIn0 {x : Int32} {hi : Int64} {n : Nat} (hh : hi.toInt = (n : Int) - 1) : (vp_in x n → f_X10_in x.toInt64 0 hi = 1) ∧ (¬ vp_in x n → f_X10_in x.toInt64 0 hi = 0) := by
  have := mIn (x := x) (lo := 0) (hi := hi) (l := 0) rfl hh
  constructor
  · intro h
    rw [vin_iff] at h
    exact this.1 (by omega)
  · intro h
    refine this.2 (fun q => h ?_)
    rw [vin_iff]
    omega
theorem pred_toInt {n : Nat} (hn : n < 2 ^ 31) : ((nI n - 1).toInt64).toInt = (n : Int) - 1 := by
  rw [Int32.toInt_toInt64]
  rcases n with _ | n
  · decide
  · rw [show nI (n + 1) - 1 = nI n from nI_pred n, nI_toInt (by omega)]
    omega
theorem cl_toInt {n : Nat} (hn : n < 2 ^ 31) : ((nI n).toInt64).toInt = (n : Int) := by
  rw [Int32.toInt_toInt64, nI_toInt hn]
theorem c38 : (38 : Int32).toNatClampNeg = 38 := rfl
theorem mPeg {σ : Sg} {x : Int32} {n : Nat} (hn : σ 76 38 = nI n) (hl : n < 2 ^ 31) : (vp_in x n → f_X10_isPeg x σ = 1) ∧ (¬ vp_in x n → f_X10_isPeg x σ = 0) := by
  unfold f_X10_isPeg
  rw [show (38 : Int32).toNatClampNeg = 38 from rfl, hn]
  exact mIn0 (pred_toInt hl)
theorem mSuit {σ : Sg} {x : Int32} {n : Nat} (hn : σ 76 40 = nI n) (hl : n < 2 ^ 31) : (vp_in x n → f_X10_isSuit x σ = 1) ∧ (¬ vp_in x n → f_X10_isSuit x σ = 0) := by
  unfold f_X10_isSuit
  rw [show (40 : Int32).toNatClampNeg = 40 from rfl, hn]
  exact mIn0 (pred_toInt hl)
theorem mHog {σ : Sg} {x : Int32} {n : Nat} (hn : σ 75 1 = nI n) (hl : n < 2 ^ 31) : (vp_in x n → f_X10_isHog x σ = 1) ∧ (¬ vp_in x n → f_X10_isHog x σ = 0) := by
  unfold f_X10_isHog
  rw [hn]
  exact mIn0 (pred_toInt hl)
theorem mCol {x : Int32} : (vp_in x 8 → f_X10_isColumn x = 1) ∧ (¬ vp_in x 8 → f_X10_isColumn x = 0) := mIn0 (n := 8) (by decide)
theorem mRag {x : Int32} : (vp_in x 4 → f_X10_isRag x = 1) ∧ (¬ vp_in x 4 → f_X10_isRag x = 0) := mIn0 (n := 4) (by decide)
/-- a number that is a cell -/
def isC (x : Int32) : Prop := ∃ c, okc c ∧ x = nI c
theorem xCellN : ∀ c, c < 100 → f_X7_isCell (nI c) = if c % 10 < 8 then 1 else 0 := by decide +kernel
theorem mCellN : ∀ c, c < 98 → f_X10_isCell (nI c) = if c % 10 < 8 then 1 else 0 := by decide +kernel
theorem xCell {x : Int32} : (isC x → f_X7_isCell x = 1) ∧ (¬ isC x → f_X7_isCell x = 0) := by
  constructor
  · rintro ⟨c, ⟨h1, h2⟩, rfl⟩
    rw [xCellN c (by omega), if_pos h2]
  · intro h
    by_cases hv : vp_in x 100
    · obtain ⟨c, hc, rfl⟩ := vp_in_of hv (by omega)
      rw [xCellN c hc, if_neg]
      intro h2
      exact h ⟨c, ⟨by omega, h2⟩, rfl⟩
    · unfold f_X7_isCell
      rcases vin_out hv with h1 | h1
      · rw [if_pos (by rw [lt0]; exact h1)]
      · rw [if_neg (by rw [lt0]; omega), if_pos (by rw [show (100 : Int32) = nI 100 from rfl, nle_iff (by omega)]; exact h1)]
theorem mCell {x : Int32} : (isC x → f_X10_isCell x = 1) ∧ (¬ isC x → f_X10_isCell x = 0) := by
  constructor
  · rintro ⟨c, ⟨h1, h2⟩, rfl⟩
    rw [mCellN c (by omega), if_pos h2]
  · intro h
    by_cases hv : vp_in x 98
    · obtain ⟨c, hc, rfl⟩ := vp_in_of hv (by omega)
      rw [mCellN c hc, if_neg]
      intro h2
      exact h ⟨c, ⟨by omega, h2⟩, rfl⟩
    · unfold f_X10_isCell
      rw [(mIn0 (n := 98) (by decide)).2 hv, if_pos rfl]
/-! bits -/
def bm (P : Nat → Bool) : Nat → Nat
  | 0 => 0
  | n + 1 => bm P n + if P n then 2 ^ n else 0
theorem bm_lt (P : Nat → Bool) : ∀ n, bm P n < 2 ^ n := by
  intro n
  induction n with
  | zero => simp [bm]
  | succ n ih =>
    unfold bm
    have : 2 ^ (n + 1) = 2 ^ n + 2 ^ n := by rw [Nat.pow_succ]; omega
    split <;> omega
theorem bm_congr {P Q : Nat → Bool} {n : Nat} (h : ∀ i, i < n → P i = Q i) : bm P n = bm Q n := by
  induction n with
  | zero => rfl
  | succ n ih =>
    unfold bm
    rw [ih (fun i hi => h i (by omega)), h n (by omega)]
theorem orbit : ∀ k, k < 10 → ∀ a, a < 2 ^ k → nI a ||| ((1 : Int32) <<< (nI k &&& 31)) = nI (a + 2 ^ k) := by decide +kernel
theorem bm_or {P : Nat → Bool} {k : Nat} (hk : k < 10) (h : P k = true) : nI (bm P k) ||| ((1 : Int32) <<< (nI k &&& 31)) = nI (bm P (k + 1)) := by
  rw [orbit k hk _ (bm_lt P k), show bm P (k + 1) = bm P k + if P k then 2 ^ k else 0 from rfl, if_pos h]
theorem bm_no {P : Nat → Bool} {k : Nat} (h : P k = false) : bm P (k + 1) = bm P k := by
  conv => lhs; unfold bm
  simp [h]
theorem or0 (x : Int32) : x ||| 0 = x := by
  apply Int32.toBitVec_inj.mp
  simp
/-- how many bits -/
def pop : Nat → Nat → Nat
  | 0, _ => 0
  | n + 1, a => a % 2 + pop n (a / 2)
theorem x_bc : ∀ a, a < 1024 → f_J6_bitCount_0f7a4 (nI a) = nI (pop 10 a) := by decide +kernel
theorem m_bits : ∀ a, a < 1024 → f_X10_bitsOf (nI a) = some (nI (pop 10 a)) := by decide +kernel
theorem pop_add : ∀ n, n < 10 → ∀ a, a < 2 ^ n → pop 10 (a + 2 ^ n) = pop 10 a + 1 := by decide +kernel
theorem pop_le : ∀ a, a < 1024 → pop 10 a ≤ 10 := by decide +kernel
/-- how many i below n are P -/
def cnt (P : Nat → Bool) : Nat → Nat
  | 0 => 0
  | n + 1 => cnt P n + if P n then 1 else 0
theorem pop_bm (P : Nat → Bool) : ∀ n, n ≤ 10 → pop 10 (bm P n) = cnt P n := by
  intro n
  induction n with
  | zero => intro _; show pop 10 0 = 0; decide
  | succ n ih =>
    intro hn
    unfold bm cnt
    by_cases h : P n = true
    · rw [if_pos h, if_pos h, pop_add n (by omega) _ (bm_lt P n), ih (by omega)]
    · rw [if_neg h, if_neg h, Nat.add_zero, Nat.add_zero, ih (by omega)]
theorem cnt_le (P : Nat → Bool) : ∀ n, cnt P n ≤ n := by
  intro n
  induction n with
  | zero => exact Nat.le_refl _
  | succ n ih =>
    unfold cnt
    split <;> omega
theorem bm_1024 (P : Nat → Bool) {n : Nat} (h : n ≤ 10) : bm P n < 1024 := Nat.lt_of_lt_of_le (bm_lt P n) (by
  calc 2 ^ n ≤ 2 ^ 10 := Nat.pow_le_pow_right (by omega) h
    _ = 1024 := by decide)
/-- the first place -/
theorem low_0 : ∀ n, n < 8 → f_J6_numberOfTrailingZeros_0f7a4 (nI (2 ^ n)) = nI n := by decide +kernel
theorem low_a : ∀ n, n < 8 → ∀ a, a < 2 ^ n → a ≠ 0 → f_J6_numberOfTrailingZeros_0f7a4 (nI (a + 2 ^ n)) = f_J6_numberOfTrailingZeros_0f7a4 (nI a) := by decide +kernel
theorem bm_zero {P : Nat → Bool} {n : Nat} : bm P n = 0 ↔ ∀ i, i < n → P i = false := by
  induction n with
  | zero => simp [bm]
  | succ n ih =>
    unfold bm
    constructor
    · intro h i hi
      by_cases hp : P n = true
      · rw [if_pos hp] at h
        have : 0 < 2 ^ n := Nat.two_pow_pos n
        omega
      · rw [if_neg hp, Nat.add_zero] at h
        by_cases e : i = n
        · rw [e]; simpa using hp
        · exact ih.mp h i (by omega)
    · intro h
      rw [ih.mpr (fun i hi => h i (by omega)), h n (by omega)]
      simp
theorem bm_first {P : Nat → Bool} : ∀ n, n ≤ 8 → ∀ i, i < n → P i = true → (∀ j, j < i → P j = false) → f_J6_numberOfTrailingZeros_0f7a4 (nI (bm P n)) = nI i := by
  intro n
  induction n with
  | zero => intro _ i hi; omega
  | succ n ih =>
    intro hn i hi hp hf
    by_cases e : i = n
    · subst e
      unfold bm
      rw [bm_zero.mpr hf, if_pos hp, Nat.zero_add]
      exact low_0 i (by omega)
    · have h1 := ih (by omega) i (by omega) hp hf
      unfold bm
      by_cases hq : P n = true
      · rw [if_pos hq, low_a n (by omega) _ (bm_lt P n) (fun z => by
          rw [bm_zero] at z
          rw [z i (by omega)] at hp
          cases hp)]
        exact h1
      · rw [if_neg hq]
        exact h1
theorem andnot : ∀ a, a < 64 → ∀ b, b < 64 → nI a &&& (nI b ^^^ (-1 : Int32)) = nI (a - (a &&& b)) := by decide +kernel
theorem and_step : ∀ n, n < 6 → ∀ a, a < 2 ^ n → ∀ b, b < 2 ^ n → ∀ p q : Bool, ((a + if p then 2 ^ n else 0) &&& (b + if q then 2 ^ n else 0)) = (a &&& b) + if p && q then 2 ^ n else 0 := by decide +kernel
theorem bm_and (P Q : Nat → Bool) : ∀ n, n ≤ 6 → bm P n &&& bm Q n = bm (fun i => P i && Q i) n := by
  intro n
  induction n with
  | zero => intro _; show (0 &&& 0 : Nat) = 0; decide
  | succ n ih =>
    intro h
    unfold bm
    rw [and_step n (by omega) _ (bm_lt P n) _ (bm_lt Q n), ih (by omega)]
theorem bm_diff (P Q : Nat → Bool) (n : Nat) : bm P n = bm (fun i => P i && Q i) n + bm (fun i => P i && !Q i) n := by
  induction n with
  | zero => rfl
  | succ n ih =>
    unfold bm
    rw [ih]
    cases P n <;> cases Q n <;> simp <;> omega
theorem bm_andnot (P Q : Nat → Bool) {n : Nat} (h : n ≤ 6) : nI (bm P n) &&& (nI (bm Q n) ^^^ (-1 : Int32)) = nI (bm (fun i => P i && !Q i) n) := by
  have h64 : ∀ R : Nat → Bool, bm R n < 64 := fun R => Nat.lt_of_lt_of_le (bm_lt R n) (by
    calc 2 ^ n ≤ 2 ^ 6 := Nat.pow_le_pow_right (by omega) h
      _ = 64 := by decide)
  rw [andnot _ (h64 P) _ (h64 Q), bm_and P Q n h]
  have := bm_diff P Q n
  congr 1
  omega
