/-! changes of the class's slope -/
theorem iMax_n0 {n : Nat} (h : n < 2 ^ 31) : iMax (nI n) 0 = nI n := by unfold iMax; rw [if_neg (nlt h)]
theorem iMax_0n {n : Nat} (h : n < 2 ^ 31) : iMax 0 (nI n) = nI n := by
  unfold iMax
  by_cases z : n = 0
  · subst z; decide
  · rw [if_pos (show (0 : Int32) < nI n from nI_lt (a := 0) (by omega) h)]
theorem iMin_nn {n m : Nat} (h : n ≤ m) (hm : m < 2 ^ 31) : iMin (nI n) (nI m) = nI n := by
  unfold iMin
  by_cases z : n = m
  · subst z
    split <;> rfl
  · rw [if_neg]
    rw [Int32.lt_iff_toInt_lt, nI_toInt hm, nI_toInt (by omega)]
    omega
def cutP (A : Pg) (n : Nat) : Pg := pu A 38 n
def cutS (A : Pg) (n : Nat) : Pg := pu A 39 n
theorem gOf_pegW {A : Pg} (hW : WFs A) {i : Nat} (hi : i < A 38) : gOf A (A i) = i + 2 := by
  obtain ⟨w1, w2, w3, w4, w5, w6, w7, w8, w9, w10, w11⟩ := hW
  exact gOf_peg (fun j hj q => w10 i j hi hj q.symm) hi rfl (fun j hj q => w9 j i hj hi q)
theorem gOf_cutP {A : Pg} (hW : WFs A) {n x : Nat} (hn : n ≤ A 38) (h : ∀ j, n ≤ j → j < A 38 → A j ≠ x) : gOf (cutP A n) x = gOf A x := by
  obtain ⟨w1, w2, w3, w4, w5, w6, w7, w8, w9, w10, w11⟩ := hW
  have e38 : cutP A n 38 = n := pu_s _ _ _
  have eo : ∀ k, k ≠ 38 → cutP A n k = A k := fun k hk => pu_n _ _ hk
  have e39 := eo 39 (by omega)
  rcases gOf_cases A x with ⟨h1, j, hj, h2⟩ | ⟨hs, i, h1, hi, h2⟩ | ⟨h1, h2, h3⟩
  · rw [h1]
    exact gOf_slug (by rw [e39]; exact hj) (by rw [eo _ (by omega)]; exact h2)
  · rw [h1]
    have hin : i < n := by
      rcases Nat.lt_or_ge i n with q | q
      · exact q
      · exact absurd h2 (h i q hi)
    refine gOf_peg (fun j hj => ?_) (by omega) (by rw [eo i (by omega)]; exact h2) (fun j hj q => ?_)
    · rw [e39] at hj; rw [eo _ (by omega)]; exact hs j hj
    · rw [e38] at hj
      rw [eo _ (by omega)] at q
      exact w9 j i (by omega) hi (by rw [q, h2])
  · rw [h1]
    refine gOf_none (fun j hj => ?_) (fun i hi => ?_)
    · rw [e39] at hj; rw [eo _ (by omega)]; exact h2 j hj
    · rw [e38] at hi; rw [eo _ (by omega)]; exact h3 i (by omega)
theorem gOf_cutP0 {A : Pg} (hW : WFs A) {n j : Nat} (h1 : n ≤ j) (h2 : j < A 38) : gOf (cutP A n) (A j) = 0 := by
  obtain ⟨w1, w2, w3, w4, w5, w6, w7, w8, w9, w10, w11⟩ := hW
  have e38 : cutP A n 38 = n := pu_s _ _ _
  have eo : ∀ k, k ≠ 38 → cutP A n k = A k := fun k hk => pu_n _ _ hk
  have e39 := eo 39 (by omega)
  refine gOf_none (fun i hi => ?_) (fun i hi q => ?_)
  · rw [e39] at hi; rw [eo _ (by omega)]; exact fun q => w10 j i h2 hi q.symm
  · rw [e38] at hi
    rw [eo _ (by omega)] at q
    have := w9 i j (by omega) h2 q
    omega
theorem WFs_cutP {A : Pg} (hW : WFs A) {n : Nat} (hn : n ≤ A 38) : WFs (cutP A n) := by
  obtain ⟨w1, w2, w3, w4, w5, w6, w7, w8, w9, w10, w11⟩ := hW
  have e38 : cutP A n 38 = n := pu_s _ _ _
  have eo : ∀ k, k ≠ 38 → cutP A n k = A k := fun k hk => pu_n _ _ hk
  have e39 := eo 39 (by omega)
  have e40 := eo 40 (by omega)
  have e41 := eo 41 (by omega)
  refine ⟨by omega, by omega, by omega, by omega, fun i hi => ?_, fun i hi => ?_, fun i hi => ?_, fun i hi => ?_, fun i j hi hj => ?_, fun i j hi hj => ?_, fun i j hi hj => ?_⟩
  · rw [e38] at hi; rw [eo i (by omega), eo _ (by omega)]; exact w5 i (by omega)
  · rw [e39] at hi; rw [eo _ (by omega)]; exact w6 i hi
  · rw [e41] at hi; rw [eo _ (by omega), eo _ (by omega)]; exact w7 i hi
  · rw [e40] at hi; rw [eo _ (by omega), eo _ (by omega)]; exact w8 i hi
  · rw [e38] at hi hj; rw [eo i (by omega), eo j (by omega)]; exact w9 i j (by omega) (by omega)
  · rw [e38] at hi; rw [e39] at hj; rw [eo i (by omega), eo _ (by omega)]; exact w10 i j (by omega) hj
  · rw [e39] at hi hj; rw [eo _ (by omega), eo _ (by omega)]; exact w11 i j hi hj
theorem gOf_cutS {A : Pg} (hW : WFs A) {n x : Nat} (hn : n ≤ A 39) (h : ∀ j, n ≤ j → j < A 39 → A (14 + j) ≠ x) : gOf (cutS A n) x = gOf A x := by
  obtain ⟨w1, w2, w3, w4, w5, w6, w7, w8, w9, w10, w11⟩ := hW
  have e39 : cutS A n 39 = n := pu_s _ _ _
  have eo : ∀ k, k ≠ 39 → cutS A n k = A k := fun k hk => pu_n _ _ hk
  have e38 := eo 38 (by omega)
  rcases gOf_cases A x with ⟨h1, j, hj, h2⟩ | ⟨hs, i, h1, hi, h2⟩ | ⟨h1, h2, h3⟩
  · rw [h1]
    have hjn : j < n := by
      rcases Nat.lt_or_ge j n with q | q
      · exact q
      · exact absurd h2 (h j q hj)
    exact gOf_slug (j := j) (by omega) (by rw [eo _ (by omega)]; exact h2)
  · rw [h1]
    refine gOf_peg (fun j hj => ?_) (by omega) (by rw [eo i (by omega)]; exact h2) (fun j hj q => ?_)
    · rw [e39] at hj; rw [eo _ (by omega)]; exact hs j (by omega)
    · rw [e38] at hj
      rw [eo _ (by omega)] at q
      exact w9 j i (by omega) hi (by rw [q, h2])
  · rw [h1]
    refine gOf_none (fun j hj => ?_) (fun i hi => ?_)
    · rw [e39] at hj; rw [eo _ (by omega)]; exact h2 j (by omega)
    · rw [e38] at hi; rw [eo _ (by omega)]; exact h3 i (by omega)
theorem gOf_cutS0 {A : Pg} (hW : WFs A) {n j : Nat} (h1 : n ≤ j) (h2 : j < A 39) : gOf (cutS A n) (A (14 + j)) = 0 := by
  obtain ⟨w1, w2, w3, w4, w5, w6, w7, w8, w9, w10, w11⟩ := hW
  have e39 : cutS A n 39 = n := pu_s _ _ _
  have eo : ∀ k, k ≠ 39 → cutS A n k = A k := fun k hk => pu_n _ _ hk
  have e38 := eo 38 (by omega)
  refine gOf_none (fun i hi q => ?_) (fun i hi => ?_)
  · rw [e39] at hi
    rw [eo _ (by omega)] at q
    have := w11 i j (by omega) h2 q
    omega
  · rw [e38] at hi; rw [eo _ (by omega)]; exact w10 i j hi h2
theorem WFs_cutS {A : Pg} (hW : WFs A) {n : Nat} (hn : n ≤ A 39) : WFs (cutS A n) := by
  obtain ⟨w1, w2, w3, w4, w5, w6, w7, w8, w9, w10, w11⟩ := hW
  have e39 : cutS A n 39 = n := pu_s _ _ _
  have eo : ∀ k, k ≠ 39 → cutS A n k = A k := fun k hk => pu_n _ _ hk
  have e38 := eo 38 (by omega)
  have e40 := eo 40 (by omega)
  have e41 := eo 41 (by omega)
  refine ⟨by omega, by omega, by omega, by omega, fun i hi => ?_, fun i hi => ?_, fun i hi => ?_, fun i hi => ?_, fun i j hi hj => ?_, fun i j hi hj => ?_, fun i j hi hj => ?_⟩
  · rw [e38] at hi; rw [eo i (by omega), eo _ (by omega)]; exact w5 i (by omega)
  · rw [e39] at hi; rw [eo _ (by omega)]; exact w6 i (by omega)
  · rw [e41] at hi; rw [eo _ (by omega), eo _ (by omega)]; exact w7 i hi
  · rw [e40] at hi; rw [eo _ (by omega), eo _ (by omega)]; exact w8 i hi
  · rw [e38] at hi hj; rw [eo i (by omega), eo j (by omega)]; exact w9 i j (by omega) (by omega)
  · rw [e38] at hi; rw [e39] at hj; rw [eo i (by omega), eo _ (by omega)]; exact w10 i j (by omega) (by omega)
  · rw [e39] at hi hj; rw [eo _ (by omega), eo _ (by omega)]; exact w11 i j (by omega) (by omega)
theorem x_cutPegs {b n : Nat} {A : Pg} {σ : Sg} (h : RX b A σ) (hW : WFs A) (hn : n ≤ A 38) : Ok (f_X7_cutPegs b (nI n) σ) (fun σ' => RX b (cutP A n) σ' ∧ Fr (slp b) σ σ') := by
  have w1 := hW.1
  obtain ⟨h1, h2, h3, h4, h5, h6, h7, h8, h9⟩ := id h
  unfold f_X7_cutPegs
  rw [iMax_n0 (by omega)]
  refine ok_bind (Q := fun e => Fr (fun q => q = b + 8) σ e.2 ∧ (∀ x, x < 100 → (∀ j, n ≤ j → j < A 38 → A j ≠ x) → e.2 (b + 8) x = gI (gOf A x)) ∧ ∀ j, n ≤ j → j < A 38 → e.2 (b + 8) (A j) = -1) ?_ ?_
  · refine wh_0 (P := fun k s => s.1 = nI (n + k) ∧ Fr (fun q => q = b + 8) σ s.2 ∧ (∀ x, x < 100 → (∀ j, n ≤ j → j < n + k → A j ≠ x) → s.2 (b + 8) x = gI (gOf A x)) ∧ ∀ j, n ≤ j → j < n + k → s.2 (b + 8) (A j) = -1) (A 38 - n) (by omega) ⟨rfl, Fr.rf, fun x hx _ => h9 x hx, fun j q1 q2 => by omega⟩ ?_
    rintro k ⟨i, s⟩ hk ⟨e1, hF, hG, hH⟩
    dsimp at e1 hF hG hH
    subst e1
    unfold b_X7_cutPegs_6
    dsimp +instances only
    rw [hF b (by omega), h1, hF (b + 1) (by omega)]
    by_cases hlt : n + k < A 38
    · left
      refine ⟨by omega, ok_f (nnle hlt (by omega)) (ok_in (vp_in_nI (by omega) (by omega)) ?_)⟩
      rw [nI_clamp (by omega), (h5 _ hlt).1]
      have hc := (hW.2.2.2.2.1 _ hlt).1.1
      refine ok_be (x_stand (by omega)) (ok_some ⟨_, rfl, nI_1 _, hF.up rfl, fun x hx hj => ?_, fun j q1 q2 => ?_⟩)
      · show up2 s (b + 8) (A (n + k)) (-1) (b + 8) x = _
        rw [up2_slot _ _ (fun e => hj (n + k) (by omega) (by omega) e.symm)]
        exact hG x hx (fun j a1 a2 => hj j a1 (by omega))
      · show up2 s (b + 8) (A (n + k)) (-1) (b + 8) (A j) = _
        by_cases e : A j = A (n + k)
        · rw [e, up2_same]
        · rw [up2_slot _ _ e]
          have hjk : j ≠ n + k := fun z => e (by rw [z])
          exact hH j q1 (by omega)
    · right
      have e : n + k = A 38 := by omega
      rw [e] at hG hH ⊢
      exact ok_t (nle (Nat.le_refl _) (by omega)) (ok_some ⟨_, rfl, hF, hG, hH⟩)
  · rintro ⟨i, s⟩ ⟨hF, hG, hH⟩
    dsimp at hF hG hH
    refine ok_some ⟨?_, (hF.mono (fun c hc => by unfold slp; omega)).up (by unfold slp; omega)⟩
    dsimp only
    rw [hF b (by omega), h1, iMin_nn hn (by omega), iMax_0n (by omega)]
    have e38 : cutP A n 38 = n := pu_s _ _ _
    have eo : ∀ k, k ≠ 38 → cutP A n k = A k := fun k hk => pu_n _ _ hk
    have ec : ∀ k, 0 < k → k < 8 → up2 s b 2 (nI n) (b + k) = σ (b + k) := fun k k0 hk => by rw [up2_cell _ _ _ (by omega)]; exact hF _ (by omega)
    have eb : ∀ k, k ≠ 2 → up2 s b 2 (nI n) b k = σ b k := fun k hk => by rw [up2_slot _ _ hk]; exact congrFun (hF b (by omega)) k
    refine ⟨by rw [e38, up2_same], by rw [eo _ (by omega), eb _ (by omega)]; exact h2, by rw [eo _ (by omega), eb _ (by omega)]; exact h3, by rw [eo _ (by omega), eb _ (by omega)]; exact h4, fun i hi => ?_, fun i hi => ?_, fun i hi => ?_, fun i hi => ?_, fun x hx => ?_⟩
    · rw [e38] at hi; rw [ec _ (by omega) (by omega), ec _ (by omega) (by omega), eo _ (by omega), eo _ (by omega)]; exact h5 i (by omega)
    · rw [eo _ (by omega)] at hi; have := hW.2.1; rw [ec _ (by omega) (by omega), eo _ (by omega)]; exact h6 i hi
    · rw [eo _ (by omega)] at hi; have := hW.2.2.2.1; rw [ec _ (by omega) (by omega), ec _ (by omega) (by omega), eo _ (by omega), eo _ (by omega)]; exact h7 i hi
    · rw [eo _ (by omega)] at hi; have := hW.2.2.1; rw [ec _ (by omega) (by omega), ec _ (by omega) (by omega), eo _ (by omega), eo _ (by omega)]; exact h8 i hi
    · rw [up2_cell _ _ _ (by omega)]
      by_cases q : ∃ j, n ≤ j ∧ j < A 38 ∧ A j = x
      · obtain ⟨j, q1, q2, rfl⟩ := q
        rw [hH j q1 q2, gOf_cutP0 hW q1 q2]
        rfl
      · have q' : ∀ j, n ≤ j → j < A 38 → A j ≠ x := fun j a1 a2 a3 => q ⟨j, a1, a2, a3⟩
        rw [hG x hx q', gOf_cutP hW hn q']
theorem x_cutSlugs {b n : Nat} {A : Pg} {σ : Sg} (h : RX b A σ) (hW : WFs A) (hn : n ≤ A 39) : Ok (f_X7_cutSlugs b (nI n) σ) (fun σ' => RX b (cutS A n) σ' ∧ Fr (slp b) σ σ') := by
  have w1 := hW.2.1
  obtain ⟨h1, h2, h3, h4, h5, h6, h7, h8, h9⟩ := id h
  unfold f_X7_cutSlugs
  rw [iMax_n0 (by omega)]
  refine ok_bind (Q := fun e => Fr (fun q => q = b + 8) σ e.2 ∧ (∀ x, x < 100 → (∀ j, n ≤ j → j < A 39 → A (14 + j) ≠ x) → e.2 (b + 8) x = gI (gOf A x)) ∧ ∀ j, n ≤ j → j < A 39 → e.2 (b + 8) (A (14 + j)) = -1) ?_ ?_
  · refine wh_0 (P := fun k s => s.1 = nI (n + k) ∧ Fr (fun q => q = b + 8) σ s.2 ∧ (∀ x, x < 100 → (∀ j, n ≤ j → j < n + k → A (14 + j) ≠ x) → s.2 (b + 8) x = gI (gOf A x)) ∧ ∀ j, n ≤ j → j < n + k → s.2 (b + 8) (A (14 + j)) = -1) (A 39 - n) (by omega) ⟨rfl, Fr.rf, fun x hx _ => h9 x hx, fun j q1 q2 => by omega⟩ ?_
    rintro k ⟨i, s⟩ hk ⟨e1, hF, hG, hH⟩
    dsimp at e1 hF hG hH
    subst e1
    unfold b_X7_cutSlugs_6
    dsimp +instances only
    rw [hF b (by omega), h2, hF (b + 3) (by omega)]
    by_cases hlt : n + k < A 39
    · left
      refine ⟨by omega, ok_f (nnle hlt (by omega)) (ok_in (vp_in_nI (by omega) (by omega)) ?_)⟩
      rw [nI_clamp (by omega), h6 _ hlt]
      have hc := (hW.2.2.2.2.2.1 _ hlt).1
      refine ok_be (x_stand (by omega)) (ok_some ⟨_, rfl, nI_1 _, hF.up rfl, fun x hx hj => ?_, fun j q1 q2 => ?_⟩)
      · show up2 s (b + 8) (A (14 + (n + k))) (-1) (b + 8) x = _
        rw [up2_slot _ _ (fun e => hj (n + k) (by omega) (by omega) e.symm)]
        exact hG x hx (fun j a1 a2 => hj j a1 (by omega))
      · show up2 s (b + 8) (A (14 + (n + k))) (-1) (b + 8) (A (14 + j)) = _
        by_cases e : A (14 + j) = A (14 + (n + k))
        · rw [e, up2_same]
        · rw [up2_slot _ _ e]
          have hjk : j ≠ n + k := fun z => e (by rw [z])
          exact hH j q1 (by omega)
    · right
      have e : n + k = A 39 := by omega
      rw [e] at hG hH ⊢
      exact ok_t (nle (Nat.le_refl _) (by omega)) (ok_some ⟨_, rfl, hF, hG, hH⟩)
  · rintro ⟨i, s⟩ ⟨hF, hG, hH⟩
    dsimp at hF hG hH
    refine ok_some ⟨?_, (hF.mono (fun c hc => by unfold slp; omega)).up (by unfold slp; omega)⟩
    dsimp only
    rw [hF b (by omega), h2, iMin_nn hn (by omega), iMax_0n (by omega)]
    have e39 : cutS A n 39 = n := pu_s _ _ _
    have eo : ∀ k, k ≠ 39 → cutS A n k = A k := fun k hk => pu_n _ _ hk
    have ec : ∀ k, 0 < k → k < 8 → up2 s b 4 (nI n) (b + k) = σ (b + k) := fun k k0 hk => by rw [up2_cell _ _ _ (by omega)]; exact hF _ (by omega)
    have eb : ∀ k, k ≠ 4 → up2 s b 4 (nI n) b k = σ b k := fun k hk => by rw [up2_slot _ _ hk]; exact congrFun (hF b (by omega)) k
    refine ⟨by rw [eo _ (by omega), eb _ (by omega)]; exact h1, by rw [e39, up2_same], by rw [eo _ (by omega), eb _ (by omega)]; exact h3, by rw [eo _ (by omega), eb _ (by omega)]; exact h4, fun i hi => ?_, fun i hi => ?_, fun i hi => ?_, fun i hi => ?_, fun x hx => ?_⟩
    · rw [eo _ (by omega)] at hi; have := hW.1; rw [ec _ (by omega) (by omega), ec _ (by omega) (by omega), eo _ (by omega), eo _ (by omega)]; exact h5 i (by omega)
    · rw [e39] at hi; rw [ec _ (by omega) (by omega), eo _ (by omega)]; exact h6 i (by omega)
    · rw [eo _ (by omega)] at hi; have := hW.2.2.2.1; rw [ec _ (by omega) (by omega), ec _ (by omega) (by omega), eo _ (by omega), eo _ (by omega)]; exact h7 i hi
    · rw [eo _ (by omega)] at hi; have := hW.2.2.1; rw [ec _ (by omega) (by omega), ec _ (by omega) (by omega), eo _ (by omega), eo _ (by omega)]; exact h8 i hi
    · rw [up2_cell _ _ _ (by omega)]
      by_cases q : ∃ j, n ≤ j ∧ j < A 39 ∧ A (14 + j) = x
      · obtain ⟨j, q1, q2, rfl⟩ := q
        rw [hH j q1 q2, gOf_cutS0 hW q1 q2]
        rfl
      · have q' : ∀ j, n ≤ j → j < A 39 → A (14 + j) ≠ x := fun j a1 a2 a3 => q ⟨j, a1, a2, a3⟩
        rw [hG x hx q', gOf_cutS hW hn q']
/-- a peg goes elsewhere -/
def mvP (A : Pg) (i c : Nat) : Pg := pu A i c
theorem gOf_mvP {A : Pg} (hW : WFs A) {i c : Nat} (hi : i < A 38) (hf : gOf A c = 0 ∨ A i = c) (x : Nat) : gOf (mvP A i c) x = if x = c then i + 2 else if x = A i then 0 else gOf A x := by
  have hpeg := gOf_pegW hW hi
  obtain ⟨w1, w2, w3, w4, w5, w6, w7, w8, w9, w10, w11⟩ := hW
  have ei : mvP A i c i = c := pu_s _ _ _
  have eo : ∀ k, k ≠ i → mvP A i c k = A k := fun k hk => pu_n _ _ hk
  have e38 := eo 38 (by omega)
  have e39 := eo 39 (by omega)
  have hcs : ∀ j, j < A 39 → A (14 + j) ≠ c := fun j hj q => by
    rcases hf with hf | hf
    · exact (gOf_free hf).1 j hj q
    · exact w10 i j hi hj (by rw [hf, q])
  have hcp : ∀ j, j < A 38 → A j = c → j = i := fun j hj q => by
    rcases hf with hf | hf
    · exact absurd q ((gOf_free hf).2 j hj)
    · exact w9 j i hj hi (by rw [q, hf])
  by_cases hx : x = c
  · subst hx
    rw [if_pos rfl]
    refine gOf_peg (fun j hj => ?_) (by omega) ei (fun j hj q => ?_)
    · rw [e39] at hj; rw [eo _ (by omega)]; exact hcs j hj
    · rw [e38] at hj
      by_cases e : j = i
      · exact e
      · rw [eo j e] at q; exact hcp j hj q
  · rw [if_neg hx]
    by_cases hx2 : x = A i
    · subst hx2
      rw [if_pos rfl]
      refine gOf_none (fun j hj => ?_) (fun j hj => ?_)
      · rw [e39] at hj; rw [eo _ (by omega)]; exact fun q => w10 i j hi hj q.symm
      · rw [e38] at hj
        by_cases e : j = i
        · subst e; rw [ei]; exact fun z => hx z.symm
        · rw [eo j e]; exact fun q => e (w9 j i hj hi q)
    · rw [if_neg hx2]
      rcases gOf_cases A x with ⟨h1, j, hj, h2⟩ | ⟨hs, k, h1, hk, h2⟩ | ⟨h1, h2, h3⟩
      · rw [h1]
        exact gOf_slug (j := j) (by omega) (by rw [eo _ (by omega)]; exact h2)
      · rw [h1]
        have hki : k ≠ i := fun e => hx2 (by rw [← h2, e])
        refine gOf_peg (fun j hj => ?_) (by omega) (by rw [eo k hki]; exact h2) (fun j hj q => ?_)
        · rw [e39] at hj; rw [eo _ (by omega)]; exact hs j hj
        · rw [e38] at hj
          by_cases e : j = i
          · subst e; rw [ei] at q; exact absurd q.symm hx
          · rw [eo j e] at q; exact w9 j k hj hk (by rw [q, h2])
      · rw [h1]
        refine gOf_none (fun j hj => ?_) (fun j hj => ?_)
        · rw [e39] at hj; rw [eo _ (by omega)]; exact h2 j hj
        · rw [e38] at hj
          by_cases e : j = i
          · subst e; rw [ei]; exact fun z => hx z.symm
          · rw [eo j e]; exact h3 j hj
theorem WFs_mvP {A : Pg} (hW : WFs A) {i c : Nat} (hi : i < A 38) (hc : okc c) (hf : gOf A c = 0 ∨ A i = c) : WFs (mvP A i c) := by
  obtain ⟨w1, w2, w3, w4, w5, w6, w7, w8, w9, w10, w11⟩ := hW
  have ei : mvP A i c i = c := pu_s _ _ _
  have eo : ∀ k, k ≠ i → mvP A i c k = A k := fun k hk => pu_n _ _ hk
  have e38 := eo 38 (by omega)
  have e39 := eo 39 (by omega)
  have e40 := eo 40 (by omega)
  have e41 := eo 41 (by omega)
  have hcs : ∀ j, j < A 39 → A (14 + j) ≠ c := fun j hj q => by
    rcases hf with hf | hf
    · exact (gOf_free hf).1 j hj q
    · exact w10 i j hi hj (by rw [hf, q])
  have hcp : ∀ j, j < A 38 → A j = c → j = i := fun j hj q => by
    rcases hf with hf | hf
    · exact absurd q ((gOf_free hf).2 j hj)
    · exact w9 j i hj hi (by rw [q, hf])
  refine ⟨by omega, by omega, by omega, by omega, fun j hj => ?_, fun j hj => ?_, fun j hj => ?_, fun j hj => ?_, fun j k hj hk => ?_, fun j k hj hk => ?_, fun j k hj hk => ?_⟩
  · rw [e38] at hj
    rw [eo (7 + j) (by omega)]
    by_cases e : j = i
    · subst e; rw [ei]; exact ⟨hc, (w5 j hj).2⟩
    · rw [eo j e]; exact w5 j hj
  · rw [e39] at hj; rw [eo _ (by omega)]; exact w6 j hj
  · rw [e41] at hj; rw [eo _ (by omega), eo _ (by omega)]; exact w7 j hj
  · rw [e40] at hj; rw [eo _ (by omega), eo _ (by omega)]; exact w8 j hj
  · rw [e38] at hj hk
    intro q
    by_cases e : j = i
    · subst e
      by_cases e' : k = j
      · exact e'.symm
      · rw [ei, eo k e'] at q; exact (hcp k hk q.symm).symm
    · rw [eo j e] at q
      by_cases e' : k = i
      · subst e'; rw [ei] at q; exact hcp j hj q
      · rw [eo k e'] at q; exact w9 j k hj hk q
  · rw [e38] at hj; rw [e39] at hk
    rw [eo (14 + k) (by omega)]
    by_cases e : j = i
    · subst e; rw [ei]; exact fun q => hcs k hk q.symm
    · rw [eo j e]; exact w10 j k hj hk
  · rw [e39] at hj hk; rw [eo _ (by omega), eo _ (by omega)]; exact w11 j k hj hk
theorem x_movePeg {b i c : Nat} {A : Pg} {σ : Sg} (h : RX b A σ) (hW : WFs A) (hi : i < A 38) (hc : okc c) (hf : gOf A c = 0 ∨ A i = c) : Ok (f_X7_movePeg b (nI i) (nI c) σ) (fun σ' => RX b (mvP A i c) σ' ∧ Fr (slp b) σ σ') := by
  have w1 := hW.1
  have hc1 := hc.1
  have hci := (hW.2.2.2.2.1 i hi).1.1
  obtain ⟨h1, h2, h3, h4, h5, h6, h7, h8, h9⟩ := id h
  unfold f_X7_movePeg
  refine ok_f (by rw [(xPeg h1 (by omega)).1 (vp_in_nI hi (by omega))]; decide) (ok_f (by rw [xCell.1 ⟨c, hc, rfl⟩]; decide) (ok_in (vp_in_nI (by omega) (by omega)) ?_))
  rw [nI_clamp (by omega), (h5 i hi).1]
  refine ok_be (x_stand (by omega)) (ok_in (vp_in_nI (by omega) (by omega)) (ok_app (ok_be (x_stand (by omega)) (ok_some ⟨?_, ((Fr.rf.up (by unfold slp; omega)).up (by unfold slp; omega)).up (by unfold slp; omega)⟩))))
  have ei : mvP A i c i = c := pu_s _ _ _
  have eo : ∀ k, k ≠ i → mvP A i c k = A k := fun k hk => pu_n _ _ hk
  have w2 := hW.2.1
  have w3 := hW.2.2.1
  have w4 := hW.2.2.2.1
  refine ⟨by rw [eo _ (by omega)]; simp [up2, h1], by rw [eo _ (by omega)]; simp [up2, h2], by rw [eo _ (by omega)]; simp [up2, h3], by rw [eo _ (by omega)]; simp [up2, h4], fun j hj => ?_, fun j hj => ?_, fun j hj => ?_, fun j hj => ?_, fun x hx => ?_⟩
  · rw [eo _ (by omega)] at hj
    rw [eo (7 + j) (by omega)]
    by_cases e : j = i
    · subst e; rw [ei]; simp [up2]; exact (h5 j hj).2
    · rw [eo j e]; simp [up2, e]; exact h5 j hj
  · rw [eo _ (by omega)] at hj; rw [eo _ (by omega)]; simp [up2]; exact h6 j hj
  · rw [eo _ (by omega)] at hj; rw [eo _ (by omega), eo _ (by omega)]; simp [up2]; exact h7 j hj
  · rw [eo _ (by omega)] at hj; rw [eo _ (by omega), eo _ (by omega)]; simp [up2]; exact h8 j hj
  · rw [gOf_mvP hW hi hf]
    by_cases e : x = c
    · subst e; simp [up2, gI]
    · by_cases e2 : x = A i
      · have e3 : ¬ A i = c := fun q => e (e2.trans q)
        simp [up2, e2, e3, gI]
      · simp [up2, e, e2]; exact h9 x hx
theorem x_hidePeg {b i : Nat} {A : Pg} {σ : Sg} (h : RX b A σ) (hW : WFs A) (hi : i < A 38) : Ok (f_X7_hidePeg b (nI i) σ) (fun σ' => RXg b A (fun x => if x = A i then 0 else gOf A x) σ' ∧ Fr (slp b) σ σ') := by
  have w1 := hW.1
  have hci := (hW.2.2.2.2.1 i hi).1.1
  obtain ⟨h1, h2, h3, h4, h5, h6, h7, h8, h9⟩ := id h
  unfold f_X7_hidePeg
  refine ok_f (by rw [(xPeg h1 (by omega)).1 (vp_in_nI hi (by omega))]; decide) (ok_in (vp_in_nI (by omega) (by omega)) ?_)
  rw [nI_clamp (by omega), (h5 i hi).1]
  refine ok_be (x_stand (by omega)) (ok_some ⟨?_, Fr.rf.up (by unfold slp; omega)⟩)
  refine ⟨by simp [up2, h1], by simp [up2, h2], by simp [up2, h3], by simp [up2, h4], fun j hj => by simp [up2]; exact h5 j hj, fun j hj => by simp [up2]; exact h6 j hj, fun j hj => by simp [up2]; exact h7 j hj, fun j hj => by simp [up2]; exact h8 j hj, fun x hx => ?_⟩
  by_cases e : x = A i
  · simp [up2, e, gI]
  · simp [up2, e]; exact h9 x hx
theorem x_showPeg {b i : Nat} {A : Pg} {σ : Sg} (h : RXg b A (fun x => if x = A i then 0 else gOf A x) σ) (hW : WFs A) (hi : i < A 38) : Ok (f_X7_showPeg b (nI i) σ) (fun σ' => RX b A σ' ∧ Fr (slp b) σ σ') := by
  have w1 := hW.1
  have hci := (hW.2.2.2.2.1 i hi).1.1
  obtain ⟨h1, h2, h3, h4, h5, h6, h7, h8, h9⟩ := id h
  unfold f_X7_showPeg
  refine ok_f (by rw [(xPeg h1 (by omega)).1 (vp_in_nI hi (by omega))]; decide) (ok_in (vp_in_nI (by omega) (by omega)) ?_)
  rw [nI_clamp (by omega), (h5 i hi).1]
  refine ok_be (x_stand (by omega)) (ok_some ⟨?_, Fr.rf.up (by unfold slp; omega)⟩)
  refine ⟨by simp [up2, h1], by simp [up2, h2], by simp [up2, h3], by simp [up2, h4], fun j hj => by simp [up2]; exact h5 j hj, fun j hj => by simp [up2]; exact h6 j hj, fun j hj => by simp [up2]; exact h7 j hj, fun j hj => by simp [up2]; exact h8 j hj, fun x hx => ?_⟩
  have := h9 x hx
  by_cases e : x = A i
  · rw [e, gOf_pegW hW hi, up2_same]; rfl
  · rw [up2_slot _ _ e, this]
    dsimp only
    rw [if_neg e]
/-- two hedgehogs change places -/
def pxc (A : Pg) (i j : Nat) : Pg := pu (pu (pu (pu A (18 + i) (A (18 + j))) (18 + j) (A (18 + i))) (22 + i) (A (22 + j))) (22 + j) (A (22 + i))
theorem x_exchange {b i j : Nat} {A : Pg} {g : Nat → Nat} {σ : Sg} (h : RXg b A g σ) (h4' : A 41 ≤ 4) (h7' : A 38 ≤ 7) (h39 : A 39 ≤ 4) (h40 : A 40 ≤ 6) (hi : i < A 41) (hj : j < A 41) (hij : i ≠ j) : Ok (f_X7_exchangeHedgehogs b (nI i) (nI j) σ) (fun σ' => RXg b (pxc A i j) g σ' ∧ Fr (slp b) σ σ') := by
  obtain ⟨h1, h2, h3, h4, h5, h6, h7, h8, h9⟩ := id h
  unfold f_X7_exchangeHedgehogs
  refine ok_f (by rw [(xHog h3 (by omega)).1 (vp_in_nI hi (by omega))]; decide) (ok_f (by rw [(xHog h3 (by omega)).1 (vp_in_nI hj (by omega))]; decide) ?_)
  have hI : ∀ {X : Type} {t : Option X} {P : X → Prop}, Ok t P → Ok (if inR (nI i) 4 then t else none) P := fun z => ok_in (vp_in_nI (by omega) (by omega)) z
  have hJ : ∀ {X : Type} {t : Option X} {P : X → Prop}, Ok t P → Ok (if inR (nI j) 4 then t else none) P := fun z => ok_in (vp_in_nI (by omega) (by omega)) z
  refine hI (ok_app (hJ (hI (ok_app (hJ (ok_app (hI (ok_app (hJ (hI (ok_app (hJ (ok_some ?_)))))))))))))
  rw [nI_clamp (by omega), nI_clamp (by omega)]
  refine ⟨?_, (((Fr.rf.up (by unfold slp; omega)).up (by unfold slp; omega)).up (by unfold slp; omega)).up (by unfold slp; omega)⟩
  have eo : ∀ k, k < 18 ∨ 26 ≤ k → pxc A i j k = A k := fun k hk => by unfold pxc; rw [pu_n _ _ (by omega), pu_n _ _ (by omega), pu_n _ _ (by omega), pu_n _ _ (by omega)]
  refine ⟨by rw [eo _ (by omega)]; simp [up2, h1], by rw [eo _ (by omega)]; simp [up2, h2], by rw [eo _ (by omega)]; simp [up2, h3], by rw [eo _ (by omega)]; simp [up2, h4], fun k hk => ?_, fun k hk => ?_, fun k hk => ?_, fun k hk => ?_, fun x hx => ?_⟩
  · rw [eo _ (by omega)] at hk; rw [eo _ (by omega), eo _ (by omega)]; simp [up2]; exact h5 k hk
  · rw [eo _ (by omega)] at hk; rw [eo _ (by omega)]; simp [up2]; exact h6 k hk
  · rw [eo _ (by omega)] at hk
    have a1 := h7 i hi
    have a2 := h7 j hj
    have a3 := h7 k hk
    unfold pxc
    by_cases e : k = j
    · subst e
      have z1 : ¬ 18 + k = 22 + i := by omega
      have z2 : ¬ 18 + k = 22 + k := by omega
      simp [up2, pu, z1, z2, a1, a2]
    · by_cases e2 : k = i
      · subst e2
        have z1 : ¬ 18 + k = 22 + j := by omega
        have z2 : ¬ 22 + k = 18 + j := by omega
        have z3 : ¬ 18 + k = 22 + k := by omega
        simp [up2, pu, z1, z2, z3, e, a1, a2]
      · have z1 : ¬ 18 + k = 22 + i := by omega
        have z2 : ¬ 18 + k = 22 + j := by omega
        have z3 : ¬ 22 + k = 18 + j := by omega
        have z4 : ¬ 22 + k = 18 + i := by omega
        simp [up2, pu, z1, z2, z3, z4, e, e2, a3]
  · rw [eo _ (by omega)] at hk; rw [eo _ (by omega), eo _ (by omega)]; simp [up2]; exact h8 k hk
  · simp [up2]; exact h9 x hx
def pHog (A : Pg) (k s : Nat) : Pg := pu (pu (pu A (18 + A 41) k) (22 + A 41) s) 41 (A 41 + 1)
theorem gOf_congr {A B : Pg} (h : ∀ k, k < 18 ∨ k = 38 ∨ k = 39 → A k = B k) (h7 : A 38 ≤ 7) (h4 : A 39 ≤ 4) (x : Nat) : gOf A x = gOf B x := by
  have e38 := h 38 (by omega)
  have e39 := h 39 (by omega)
  rcases gOf_cases B x with ⟨h1, j, hj, h2⟩ | ⟨hs, i, h1, hi, h2⟩ | ⟨h1, h2, h3⟩
  · rw [h1]
    exact gOf_slug (j := j) (by omega) (by rw [h _ (by omega)]; exact h2)
  · rw [h1]
    unfold gOf at h1 ⊢
    rw [if_neg (by
      rcases fnd_spec (B 39) (fun i => B (14 + i)) x with ⟨a1, a2, -⟩ | ⟨a1, a2⟩
      · exact absurd a2 (hs _ a1)
      · omega)] at h1
    rw [fnd_no (n := A 39) (f := fun i => A (14 + i)) (fun j hj => by rw [h _ (by omega)]; exact hs j (by omega)), if_neg (by omega)]
    have : fnd (A 38) A x = fnd (B 38) B x := by
      rcases fnd_spec (B 38) B x with ⟨a1, a2, a3⟩ | ⟨a1, a2⟩
      · exact fnd_at (by omega) (by rw [h _ (by omega)]; exact a2) (fun j hj => by rw [h _ (by omega)]; exact a3 j hj)
      · exact absurd h2 (a2 i hi)
    rw [this, e38]
    exact h1
  · rw [h1]
    exact gOf_none (fun j hj => by rw [h _ (by omega)]; exact h2 j (by omega)) (fun i hi => by rw [h _ (by omega)]; exact h3 i (by omega))
theorem x_addHedgehog {b k s : Nat} {A : Pg} {σ : Sg} (h : RX b A σ) (hW : WFs A) (h41 : A 41 < 4) : Ok (f_X7_addHedgehog b (nI k) (nI s) σ) (fun y => y.1 = nI (A 41 + 1) ∧ RX b (pHog A k s) y.2 ∧ Fr (slp b) σ y.2) := by
  have w1 := hW.1
  have w2 := hW.2.1
  have w3 := hW.2.2.1
  obtain ⟨h1, h2, h3, h4, h5, h6, h7, h8, h9⟩ := id h
  unfold f_X7_addHedgehog
  rw [h3]
  refine ok_t (show nI (A 41) < nI 4 from nI_lt h41 (by omega)) (ok_in (vp_in_nI h41 (by omega)) (ok_app ?_))
  rw [nI_clamp (by omega)]
  have q2 : up2 σ (b + 4) (A 41) (nI k) b 7 = nI (A 41) := by rw [up2_cell _ _ _ (by omega)]; exact h3
  rw [q2]
  refine ok_in (vp_in_nI h41 (by omega)) (ok_app (ok_app (ok_some ?_)))
  rw [nI_clamp (by omega)]
  have q3 : up2 (up2 σ (b + 4) (A 41) (nI k)) (b + 5) (A 41) (nI s) b 7 = nI (A 41) := by rw [up2_cell _ _ _ (by omega)]; exact q2
  rw [q3, nI_1]
  refine ⟨by rw [up2_same], ?_, ((Fr.rf.up (by unfold slp; omega)).up (by unfold slp; omega)).up (by unfold slp; omega)⟩
  have e41 : pHog A k s 41 = A 41 + 1 := by unfold pHog; rw [pu_s]
  have eo : ∀ j, j ≠ 41 → j ≠ 18 + A 41 → j ≠ 22 + A 41 → pHog A k s j = A j := fun j a1 a2 a3 => by unfold pHog; rw [pu_n _ _ a1, pu_n _ _ a3, pu_n _ _ a2]
  have en : pHog A k s (18 + A 41) = k := by unfold pHog; rw [pu_n _ _ (by omega), pu_n _ _ (by omega), pu_s]
  have en2 : pHog A k s (22 + A 41) = s := by unfold pHog; rw [pu_n _ _ (by omega), pu_s]
  refine ⟨by rw [eo _ (by omega) (by omega) (by omega)]; simp [up2, h1], by rw [eo _ (by omega) (by omega) (by omega)]; simp [up2, h2], by rw [e41]; simp [up2], by rw [eo _ (by omega) (by omega) (by omega)]; simp [up2, h4], fun i hi => ?_, fun i hi => ?_, fun i hi => ?_, fun i hi => ?_, fun x hx => ?_⟩
  · rw [eo _ (by omega) (by omega) (by omega)] at hi; rw [eo _ (by omega) (by omega) (by omega), eo _ (by omega) (by omega) (by omega)]; simp [up2]; exact h5 i hi
  · rw [eo _ (by omega) (by omega) (by omega)] at hi; rw [eo _ (by omega) (by omega) (by omega)]; simp [up2]; exact h6 i hi
  · rw [e41] at hi
    by_cases e : i = A 41
    · subst e; rw [en, en2]; simp [up2]
    · rw [eo _ (by omega) (by omega) (by omega), eo _ (by omega) (by omega) (by omega)]; simp [up2, e]; exact h7 i (by omega)
  · rw [eo _ (by omega) (by omega) (by omega)] at hi; rw [eo _ (by omega) (by omega) (by omega), eo _ (by omega) (by omega) (by omega)]; simp [up2]; exact h8 i hi
  · rw [← gOf_congr (A := A) (B := pHog A k s) (fun j hj => (eo j (by omega) (by omega) (by omega)).symm) w1 w2]
    simp [up2]; exact h9 x hx
theorem x_addSuit {b w c : Nat} {A : Pg} {σ : Sg} (h : RX b A σ) (hW : WFs A) : (A 40 = 6 → f_X7_addSuit b (nI w) (nI c) σ = some (-3, σ)) ∧ (A 40 < 6 → Ok (f_X7_addSuit b (nI w) (nI c) σ) (fun y => y.1 = nI (A 40 + 1) ∧ RX b (pSuit A w c) y.2 ∧ Fr (slp b) σ y.2)) := by
  have w1 := hW.1
  have w2 := hW.2.1
  have w3 := hW.2.2.1
  have w4 := hW.2.2.2.1
  obtain ⟨h1, h2, h3, h4, h5, h6, h7, h8, h9⟩ := id h
  unfold f_X7_addSuit
  rw [h4]
  refine ⟨fun q => by rw [q, if_neg (by decide)], fun h40 => ?_⟩
  refine ok_t (show nI (A 40) < nI 6 from nI_lt h40 (by omega)) (ok_in (vp_in_nI h40 (by omega)) (ok_app ?_))
  rw [nI_clamp (by omega)]
  have q2 : up2 σ (b + 6) (A 40) (nI w) b 10 = nI (A 40) := by rw [up2_cell _ _ _ (by omega)]; exact h4
  rw [q2]
  refine ok_in (vp_in_nI h40 (by omega)) (ok_app (ok_app (ok_some ?_)))
  rw [nI_clamp (by omega)]
  have q3 : up2 (up2 σ (b + 6) (A 40) (nI w)) (b + 7) (A 40) (nI c) b 10 = nI (A 40) := by rw [up2_cell _ _ _ (by omega)]; exact q2
  rw [q3, nI_1]
  refine ⟨by rw [up2_same], ?_, ((Fr.rf.up (by unfold slp; omega)).up (by unfold slp; omega)).up (by unfold slp; omega)⟩
  have e40 : pSuit A w c 40 = A 40 + 1 := by unfold pSuit; rw [pu_s]
  have eo : ∀ j, j ≠ 40 → j ≠ 26 + A 40 → j ≠ 32 + A 40 → pSuit A w c j = A j := fun j a1 a2 a3 => by unfold pSuit; rw [pu_n _ _ a1, pu_n _ _ a3, pu_n _ _ a2]
  have en : pSuit A w c (26 + A 40) = w := by unfold pSuit; rw [pu_n _ _ (by omega), pu_n _ _ (by omega), pu_s]
  have en2 : pSuit A w c (32 + A 40) = c := by unfold pSuit; rw [pu_n _ _ (by omega), pu_s]
  refine ⟨by rw [eo _ (by omega) (by omega) (by omega)]; simp [up2, h1], by rw [eo _ (by omega) (by omega) (by omega)]; simp [up2, h2], by rw [eo _ (by omega) (by omega) (by omega)]; simp [up2, h3], by rw [e40]; simp [up2], fun i hi => ?_, fun i hi => ?_, fun i hi => ?_, fun i hi => ?_, fun x hx => ?_⟩
  · rw [eo _ (by omega) (by omega) (by omega)] at hi; rw [eo _ (by omega) (by omega) (by omega), eo _ (by omega) (by omega) (by omega)]; simp [up2]; exact h5 i hi
  · rw [eo _ (by omega) (by omega) (by omega)] at hi; rw [eo _ (by omega) (by omega) (by omega)]; simp [up2]; exact h6 i hi
  · rw [eo _ (by omega) (by omega) (by omega)] at hi; rw [eo _ (by omega) (by omega) (by omega), eo _ (by omega) (by omega) (by omega)]; simp [up2]; exact h7 i hi
  · rw [e40] at hi
    by_cases e : i = A 40
    · subst e; rw [en, en2]; simp [up2]
    · rw [eo _ (by omega) (by omega) (by omega), eo _ (by omega) (by omega) (by omega)]; simp [up2, e]; exact h8 i (by omega)
  · rw [← gOf_congr (A := A) (B := pSuit A w c) (fun j hj => (eo j (by omega) (by omega) (by omega)).symm) w1 w2]
    simp [up2]; exact h9 x hx
theorem WFs_pSuit {A : Pg} (hW : WFs A) {w c : Nat} (h40 : A 40 < 6) (hw : w < 4) (hc : c < 8) : WFs (pSuit A w c) := by
  obtain ⟨w1, w2, w3, w4, w5, w6, w7, w8, w9, w10, w11⟩ := hW
  have e40 : pSuit A w c 40 = A 40 + 1 := by unfold pSuit; rw [pu_s]
  have eo : ∀ j, j ≠ 40 → j ≠ 26 + A 40 → j ≠ 32 + A 40 → pSuit A w c j = A j := fun j a1 a2 a3 => by unfold pSuit; rw [pu_n _ _ a1, pu_n _ _ a3, pu_n _ _ a2]
  have en : pSuit A w c (26 + A 40) = w := by unfold pSuit; rw [pu_n _ _ (by omega), pu_n _ _ (by omega), pu_s]
  have en2 : pSuit A w c (32 + A 40) = c := by unfold pSuit; rw [pu_n _ _ (by omega), pu_s]
  have ep : ∀ j, j < 26 ∨ j = 38 ∨ j = 39 ∨ j = 41 → pSuit A w c j = A j := fun j hj => eo j (by omega) (by omega) (by omega)
  refine ⟨by rw [ep _ (by omega)]; exact w1, by rw [ep _ (by omega)]; exact w2, by omega, by rw [ep _ (by omega)]; exact w4, fun i hi => ?_, fun i hi => ?_, fun i hi => ?_, fun i hi => ?_, fun i j hi hj => ?_, fun i j hi hj => ?_, fun i j hi hj => ?_⟩
  · rw [ep _ (by omega)] at hi; rw [ep i (by omega), ep _ (by omega)]; exact w5 i hi
  · rw [ep _ (by omega)] at hi; rw [ep _ (by omega)]; exact w6 i hi
  · rw [ep _ (by omega)] at hi; rw [ep _ (by omega), ep _ (by omega)]; exact w7 i hi
  · rw [e40] at hi
    by_cases e : i = A 40
    · subst e; rw [en, en2]; exact ⟨hw, hc⟩
    · rw [eo _ (by omega) (by omega) (by omega), eo _ (by omega) (by omega) (by omega)]; exact w8 i (by omega)
  · rw [ep _ (by omega)] at hi hj; rw [ep i (by omega), ep j (by omega)]; exact w9 i j hi hj
  · rw [ep _ (by omega)] at hi hj; rw [ep i (by omega), ep _ (by omega)]; exact w10 i j hi hj
  · rw [ep _ (by omega)] at hi hj; rw [ep _ (by omega), ep _ (by omega)]; exact w11 i j hi hj
theorem x_copyFrom {b b1 : Nat} {A : Pg} {σ : Sg} (h : RX b1 A σ) (hW : WFs A) (hb : b + 8 < b1 ∨ b1 + 8 < b) : RX b A (f_X7_copyFrom b b1 σ) ∧ Fr (slp b) σ (f_X7_copyFrom b b1 σ) := by
  have w1 := hW.1
  have w2 := hW.2.1
  have w3 := hW.2.2.1
  have w4 := hW.2.2.2.1
  have d1 : ∀ k l, k ≤ 8 → l ≤ 8 → ¬ b1 + l = b + k := fun k l _ _ => by omega
  have d2 : ∀ k, k ≤ 8 → ¬ b1 = b + k := fun k _ => by omega
  have d3 : ∀ l, l ≤ 8 → ¬ b1 + l = b := fun k _ => by omega
  have d4 : ¬ b1 = b := by omega
  obtain ⟨h1, h2, h3, h4, h5, h6, h7, h8, h9⟩ := id h
  constructor
  · unfold f_X7_copyFrom
    simp only [app]
    refine ⟨?_, ?_, ?_, ?_, fun i hi => ?_, fun i hi => ?_, fun i hi => ?_, fun i hi => ?_, fun x hx => ?_⟩
    · simp [upR, up2, va_cpy, d1, d2, d3, d4, h1]
    · simp [upR, up2, va_cpy, d1, d2, d3, d4, h2]
    · simp [upR, up2, va_cpy, d1, d2, d3, d4, h3]
    · simp [upR, up2, va_cpy, d1, d2, d3, d4, h4]
    · have z : i < 7 := by omega
      simp [upR, up2, va_cpy, d1, d2, d3, d4, z, h5 i hi]
    · have z : i < 4 := by omega
      simp [upR, up2, va_cpy, d1, d2, d3, d4, z, h6 i hi]
    · have z : i < 4 := by omega
      simp [upR, up2, va_cpy, d1, d2, d3, d4, z, h7 i hi]
    · have z : i < 6 := by omega
      simp [upR, up2, va_cpy, d1, d2, d3, d4, z, h8 i hi]
    · simp [upR, up2, va_cpy, d1, d2, d3, d4, hx, h9 x hx]
  · unfold f_X7_copyFrom
    simp only [app]
    exact (((((((((((Fr.rf.row (by unfold slp; omega)).row (by unfold slp; omega)).up (by unfold slp; omega)).row (by unfold slp; omega)).up (by unfold slp; omega)).row (by unfold slp; omega)).row (by unfold slp; omega)).up (by unfold slp; omega)).row (by unfold slp; omega)).row (by unfold slp; omega)).up (by unfold slp; omega)).row (by unfold slp; omega)
/-- an empty slope -/
def zp : Pg := fun _ => 0
theorem WFs_zp : WFs zp := ⟨by decide, by decide, by decide, by decide, fun i hi => absurd hi (by unfold zp; omega), fun i hi => absurd hi (by unfold zp; omega), fun i hi => absurd hi (by unfold zp; omega), fun i hi => absurd hi (by unfold zp; omega), fun i j hi => absurd hi (by unfold zp; omega), fun i j hi => absurd hi (by unfold zp; omega), fun i j hi => absurd hi (by unfold zp; omega)⟩
theorem gOf_zp (x : Nat) : gOf zp x = 0 := gOf_none (fun j hj => absurd hj (by unfold zp; omega)) (fun j hj => absurd hj (by unfold zp; omega))
theorem x_empty {b : Nat} {σ : Sg} : RX b zp (f_X7_empty b σ) ∧ Fr (slp b) σ (f_X7_empty b σ) := by
  unfold f_X7_empty
  simp only [app]
  refine ⟨⟨?_, ?_, ?_, ?_, fun i hi => absurd hi (by unfold zp; omega), fun i hi => absurd hi (by unfold zp; omega), fun i hi => absurd hi (by unfold zp; omega), fun i hi => absurd hi (by unfold zp; omega), fun x hx => ?_⟩, ((((Fr.rf.up (by unfold slp; omega)).up (by unfold slp; omega)).up (by unfold slp; omega)).up (by unfold slp; omega)).row (by unfold slp; omega)⟩
  · simp [upR, up2]; rfl
  · simp [upR, up2]; rfl
  · simp [upR, up2]; rfl
  · simp [upR, up2]; rfl
  · rw [gOf_zp, upR_same]; simp [fillR, hx, gI]
