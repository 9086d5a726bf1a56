/-! alter, shift, drive, lay, clear, sue, drop -/
theorem pHogs {A : Pg} {b q v : Nat} {σ : Sg} {o : Nat} (h : RX b A σ) (hW : WFs A) (hq : q < A 41) (ho : (o = 4 ∧ v < 4) ∨ (o = 5 ∧ 1 ≤ v ∧ v ≤ 9)) : RX b (pu A (4 * o + 2 + q) v) (up2 σ (b + o) q (nI v)) ∧ WFs (pu A (4 * o + 2 + q) v) := by
  obtain ⟨w1, w2, w3, w4, w5, w6, w7, w8, w9, w10, w11⟩ := hW
  obtain ⟨g1, g2, g3, g4, g5, g6, g7, g8, g9⟩ := h
  have eo : ∀ j, j ≠ 4 * o + 2 + q → pu A (4 * o + 2 + q) v j = A j := fun j hj => pu_n _ _ hj
  have es : pu A (4 * o + 2 + q) v (4 * o + 2 + q) = v := pu_s _ _ _
  have z1 : ∀ k, k < 4 → up2 σ (b + o) q (nI v) (b + k) = σ (b + k) := fun k hk => up2_cell _ _ _ (by omega)
  have z2 : ∀ k, 6 ≤ k → up2 σ (b + o) q (nI v) (b + k) = σ (b + k) := fun k hk => up2_cell _ _ _ (by omega)
  have z0 : up2 σ (b + o) q (nI v) b = σ b := up2_cell _ _ _ (by omega)
  have eg : ∀ x, gOf A x = gOf (pu A (4 * o + 2 + q) v) x := fun x => gOf_congr (fun k hk => (eo k (by omega)).symm) w1 w2 x
  constructor
  · refine ⟨by rw [eo _ (by omega), z0]; exact g1, by rw [eo _ (by omega), z0]; exact g2, by rw [eo _ (by omega), z0]; exact g3, by rw [eo _ (by omega), z0]; exact g4, fun j hj => ?_, fun j hj => ?_, fun j hj => ?_, fun j hj => ?_, fun x hx => ?_⟩
    · rw [eo _ (by omega)] at hj; rw [eo _ (by omega), eo _ (by omega), z1 1 (by omega), z1 2 (by omega)]; exact g5 j hj
    · rw [eo _ (by omega)] at hj; rw [eo _ (by omega), z1 3 (by omega)]; exact g6 j hj
    · rw [eo _ (by omega)] at hj
      have a3 := g7 j hj
      rcases ho with ⟨rfl, hv⟩ | ⟨rfl, hv⟩
      · by_cases e : j = q
        · subst e
          refine ⟨by rw [up2_same, show 18 + j = 4 * 4 + 2 + j from rfl, es], ?_⟩
          rw [up2_cell _ _ _ (by omega), eo _ (by omega)]; exact a3.2
        · refine ⟨by rw [up2_slot _ _ e, eo _ (by omega)]; exact a3.1, ?_⟩
          rw [up2_cell _ _ _ (by omega), eo _ (by omega)]; exact a3.2
      · by_cases e : j = q
        · subst e
          refine ⟨?_, by rw [up2_same, show 22 + j = 4 * 5 + 2 + j from rfl, es]⟩
          rw [up2_cell _ _ _ (by omega), eo _ (by omega)]; exact a3.1
        · refine ⟨?_, by rw [up2_slot _ _ e, eo _ (by omega)]; exact a3.2⟩
          rw [up2_cell _ _ _ (by omega), eo _ (by omega)]; exact a3.1
    · rw [eo _ (by omega)] at hj; rw [eo _ (by omega), eo _ (by omega), z2 6 (by omega), z2 7 (by omega)]; exact g8 j hj
    · rw [← eg, z2 8 (by omega)]; exact g9 x hx
  · refine ⟨by rw [eo _ (by omega)]; exact w1, by rw [eo _ (by omega)]; exact w2, by rw [eo _ (by omega)]; exact w3, by rw [eo _ (by omega)]; exact w4, fun j hj => ?_, fun j hj => ?_, fun j hj => ?_, fun j hj => ?_, fun j l hj hl => ?_, fun j l hj hl => ?_, fun j l hj hl => ?_⟩
    · rw [eo _ (by omega)] at hj; rw [eo j (by omega), eo _ (by omega)]; exact w5 j hj
    · rw [eo _ (by omega)] at hj; rw [eo _ (by omega)]; exact w6 j hj
    · rw [eo _ (by omega)] at hj
      have a3 := w7 j hj
      rcases ho with ⟨rfl, hv⟩ | ⟨rfl, hv⟩
      · rw [eo (22 + j) (by omega)]
        by_cases e : j = q
        · subst e; rw [show 18 + j = 4 * 4 + 2 + j from rfl, es]; exact ⟨hv, a3.2⟩
        · rw [eo _ (by omega)]; exact a3
      · rw [eo (18 + j) (by omega)]
        by_cases e : j = q
        · subst e; rw [show 22 + j = 4 * 5 + 2 + j from rfl, es]; exact ⟨a3.1, hv⟩
        · rw [eo _ (by omega)]; exact a3
    · rw [eo _ (by omega)] at hj; rw [eo _ (by omega), eo _ (by omega)]; exact w8 j hj
    · rw [eo _ (by omega)] at hj hl; rw [eo j (by omega), eo l (by omega)]; exact w9 j l hj hl
    · rw [eo _ (by omega)] at hj hl; rw [eo j (by omega), eo _ (by omega)]; exact w10 j l hj hl
    · rw [eo _ (by omega)] at hj hl; rw [eo _ (by omega), eo _ (by omega)]; exact w11 j l hj hl
theorem in19 {x : Int32} : (1 ≤ x.toInt ∧ x.toInt ≤ 9 → f_X10_in x.toInt64 1 9 = 1) ∧ (¬ (1 ≤ x.toInt ∧ x.toInt ≤ 9) → f_X10_in x.toInt64 1 9 = 0) := mIn (by decide) (by decide)
theorem op_alterG {σ : Sg} {A : Pg} {I : Nat → Pg} (h : InvA A I σ) {q v o : Nat} (hq : q < A 41) (ho : (o = 4 ∧ v < 4) ∨ (o = 5 ∧ 1 ≤ v ∧ v ≤ 9)) : InvA (pu A (4 * o + 2 + q) v) I (up2 (up2 σ (1 + o) q (nI v)) 76 (4 * o + 2 + q) (nI v)) := by
  have w4 := h.2.2.2.1.1.2.2.2.1
  have w3 := h.2.2.2.1.1.2.2.1
  obtain ⟨p1, p2⟩ := pHogs h.1 h.2.2.2.1.1 hq ho
  have ha : Agr Pgs σ (up2 (up2 σ (1 + o) q (nI v)) 76 (4 * o + 2 + q) (nI v)) := (Agr.rf.up (by unfold Pgs; omega)).up (by unfold Pgs; omega)
  have eo : ∀ j, j ≠ 4 * o + 2 + q → pu A (4 * o + 2 + q) v j = A j := fun j hj => pu_n _ _ hj
  refine h.page ha (fun c j z => z) (p1.keep (fun k hk => up2_cell _ _ _ (by omega))) ?_ (eo _ (by omega)) ⟨p2, ?_⟩
  · have := (h.2.1.keep (σ' := up2 σ (1 + o) q (nI v)) (up2_cell _ _ _ (by omega))).pu (k := 4 * o + 2 + q) (v := v)
    rwa [Nat.zero_add] at this
  · intro j hj
    rw [eo _ (by omega)] at hj; rw [eo _ (by omega), eo _ (by omega)]; exact h.2.2.2.1.2 j hj
theorem op_alter {σ : Sg} (h : Inv σ) (a b v : Int32) : Op (f_X9_alter a b v σ) (f_X10_alter a b v) := by
  obtain ⟨A, I, h⟩ := h
  have h1 := h.1
  have w4 := h.2.2.2.1.1.2.2.2.1
  have xp := xHog (x := a) h1.2.2.1 (by omega)
  have mp := mHog (x := a) h.2.2.1 (by omega)
  have hin := mIn0 (x := v) (hi := 3) (n := 4) (by decide)
  by_cases hv : vp_in a (A 41)
  · obtain ⟨i, hi, rfl⟩ := vin_nI hv (by omega)
    have c5 : inR (nI i) 4 = true := inR_of (vp_in_nI (by omega) (by omega))
    by_cases hb0 : b = 0
    · subst hb0
      have t10 : ¬ ((0 : Int32) = 1) := by decide
      by_cases hr : vp_in v 4
      · obtain ⟨k, hk, rfl⟩ := vin_nI hr (by omega)
        have d1 : ¬ nI k < 0 := nlt (by omega)
        have d2 : ¬ (4 : Int32) ≤ nI k := nnle (b := 4) hk (by omega)
        have c6 : inR (nI (18 + i)) 205 = true := inR_of (vp_in_nI (by omega) (by omega))
        refine ⟨nI (A (18 + i)), up2 σ (1 + 4) i (nI k), _, ?_, ?_, _, I, op_alterG h (o := 4) (q := i) (v := k) hi (Or.inl ⟨rfl, hk⟩)⟩
        · unfold f_X9_alter
          rw [xp.1 hv, if_neg z10, if_pos rfl, if_neg d1, if_neg d2, if_pos c5, if_pos c5, nI_clamp (by omega), (h1.2.2.2.2.2.2.1 i hi).1]
        · unfold f_X10_alter f_X10_puts
          have e1 : up2 σ 5 i (nI k) 75 1 = nI (A 41) := by rw [up2_cell _ _ _ (by decide)]; exact h.2.2.1
          rw [show 1 + 4 = 5 from rfl, (mHog e1 (by omega)).1 hv, if_pos rfl, hin.1 hr]
          simp only [app]
          rw [if_neg z10, if_neg z10, if_neg z10, show (18 : Int32) + 4 * 0 + nI i = nI (18 + i) from nI_add 18 i, if_pos c6, if_pos c6, nI_clamp (by omega)]
          simp only [Option.bind_some]
          rw [up2_cell σ _ _ (show (76 : Nat) ≠ 5 by decide), zrm h.2.1 (by omega)]
      · refine op_0 h (r := -1) ?_ ?_
        · unfold f_X9_alter
          rw [xp.1 hv, if_neg z10, if_pos rfl]
          by_cases d1 : v < 0
          · rw [if_pos d1, if_neg t10]
          · rw [if_neg d1, if_pos (show (4 : Int32) ≤ v by
              rcases vin_out hr with q | q
              · exact absurd (lt0.mpr q) d1
              · exact (nle_iff (n := 4) (by omega)).mpr q), if_neg t10]
        · unfold f_X10_alter f_X10_puts
          rw [mp.1 hv, if_pos rfl, hin.2 hr]
          simp [app]
    · by_cases hb1 : b = 1
      · subst hb1
        have i19 := in19 (x := v)
        by_cases hr : 1 ≤ v.toInt ∧ v.toInt ≤ 9
        · have hv10 : vp_in v 10 := vin_iff.mpr (by omega)
          obtain ⟨k, hk, rfl⟩ := vin_nI hv10 (by omega)
          rw [nI_toInt (by omega)] at hr
          have d1 : ¬ nI k < 1 := fun q => by
            rw [Int32.lt_iff_toInt_lt, nI_toInt (by omega)] at q
            have : (1 : Int32).toInt = 1 := by decide
            omega
          have d2 : ¬ (9 : Int32) < nI k := fun q => by
            rw [Int32.lt_iff_toInt_lt, nI_toInt (by omega)] at q
            have : (9 : Int32).toInt = 9 := by decide
            omega
          have c6 : inR (nI (22 + i)) 205 = true := inR_of (vp_in_nI (by omega) (by omega))
          have hin1 : f_X10_in (nI k).toInt64 1 9 = 1 := i19.1 (by rw [nI_toInt (by omega)]; exact hr)
          refine ⟨nI (A (22 + i)), up2 σ (1 + 5) i (nI k), _, ?_, ?_, _, I, op_alterG h (o := 5) (q := i) (v := k) hi (Or.inr ⟨rfl, by omega, by omega⟩)⟩
          · unfold f_X9_alter
            rw [xp.1 hv, if_neg z10, if_neg hb0, if_pos rfl, if_neg d1, if_neg d2, if_pos c5, if_pos c5, nI_clamp (by omega), (h1.2.2.2.2.2.2.1 i hi).2]
          · unfold f_X10_alter f_X10_puts
            have e1 : up2 σ 6 i (nI k) 75 1 = nI (A 41) := by rw [up2_cell _ _ _ (by decide)]; exact h.2.2.1
            rw [show 1 + 5 = 6 from rfl, (mHog e1 (by omega)).1 hv, if_neg hb0, if_pos rfl, hin1]
            simp only [app]
            rw [if_neg z10, if_neg z10, if_neg z10, if_neg z10, show (18 : Int32) + 4 * 1 + nI i = nI (22 + i) from nI_add 22 i, if_pos c6, if_pos c6, nI_clamp (by omega)]
            simp only [Option.bind_some]
            rw [up2_cell σ _ _ (show (76 : Nat) ≠ 6 by decide), zrm h.2.1 (by omega)]
        · refine op_0 h (r := -1) ?_ ?_
          · unfold f_X9_alter
            rw [xp.1 hv, if_neg z10, if_neg hb0, if_pos rfl]
            by_cases d1 : v < 1
            · rw [if_pos d1]
            · rw [if_neg d1, if_pos (show (9 : Int32) < v by
                rw [Int32.lt_iff_toInt_lt] at d1 ⊢
                have q1 : (1 : Int32).toInt = 1 := by decide
                have q9 : (9 : Int32).toInt = 9 := by decide
                omega)]
          · unfold f_X10_alter f_X10_puts
            rw [mp.1 hv, if_neg hb0, if_pos rfl, i19.2 hr]
            simp [app]
      · refine op_0 h (r := -1) ?_ ?_
        · unfold f_X9_alter
          rw [xp.1 hv, if_neg z10, if_neg hb0, if_neg hb1]
        · unfold f_X10_alter f_X10_puts
          rw [mp.1 hv, if_neg hb0, if_neg hb1]
          simp [app]
  · refine op_0 h (r := -1) ?_ ?_
    · unfold f_X9_alter
      rw [xp.2 hv, if_pos rfl]
    · unfold f_X10_alter f_X10_puts
      rw [mp.2 hv]
      simp [app]
