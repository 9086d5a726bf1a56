/-! shift, sue, drop, keep, back -/
theorem op_shift {σ : Sg} (h : Inv σ) (a d : Int32) : Op (f_X9_shift a d σ) (f_X10_shift a d) := by
  obtain ⟨A, I, h⟩ := h
  have hW := h.2.2.2.1
  have w1 := hW.1.1
  have w2 := hW.1.2.1
  have w3 := hW.1.2.2.1
  have w5 := hW.1.2.2.2.2.1
  have h1 := h.1
  have xp := xPeg (x := a) h1.1 (by omega)
  by_cases hv : vp_in a (A 38)
  · by_cases hca : isC d
    · obtain ⟨i, hi, rfl⟩ := vin_nI hv (by omega)
      obtain ⟨c, hc, rfl⟩ := id hca
      have hc1 := hc.1
      have hci := (w5 i hi).1.1
      have c5 : inR (nI i) 7 = true := inR_of (vp_in_nI (by omega) (by omega))
      have c6 : inR (nI i) 205 = true := inR_of (vp_in_nI (by omega) (by omega))
      have xf := x_isFree h1 w1 hc
      have ex : f_X9_shift (nI i) (nI c) σ = if A i = c ∨ gOf A c = 0 then (f_X7_movePeg 1 (nI i) (nI c) σ).bind fun (y5 : Sg) => some (nI (A i), y5) else some (-2, σ) := by
        unfold f_X9_shift
        rw [xp.1 hv, xCell.1 hca, if_neg z10, if_neg z10, if_pos c5, nI_clamp (by omega), (h1.2.2.2.2.1 i hi).1]
        by_cases e : A i = c
        · rw [if_pos (by rw [e]), if_pos (Or.inl e)]
        · rw [if_neg (fun q => e (((nI_eq (by omega) (by omega)).mp q).symm)), xf, Option.bind_some]
          by_cases hg : gOf A c = 0
          · rw [if_pos hg, if_neg z10, if_pos (Or.inr hg)]
          · rw [if_neg hg, if_pos rfl, if_neg (fun q => q.elim e hg)]
      have em : ∀ σ1, RM 0 A σ1 → f_X10_shift (nI i) (nI c) σ1 = if A i = c ∨ gOf A c = 0 then some (nI (A i), up2 σ1 76 i (nI c)) else some (-2, σ1) := fun σ1 hM => by
        have hf : f_X10_isFreeOn 0 (nI c) σ1 = _ := m_isFreeOn (p := 0) hM (by omega) hW.1 (by omega)
        have hp : f_X10_pegOn 0 (nI c) σ1 = _ := m_pegOn (p := 0) hM (by omega) w1 (fun j hj => by have := (w5 j hj).1.1; omega) (show c < 2 ^ 31 by omega)
        unfold f_X10_shift f_X10_puts
        rw [(mPeg (zrm hM (by omega)) (by omega)).1 hv, mCell.1 hca, if_neg z10, if_neg z10, hf, hp]
        simp only [Option.bind_some]
        rw [if_neg z10, if_pos c6, if_pos c6, nI_clamp (by omega), zrm hM (by omega), Option.bind_some]
        by_cases e : A i = c
        · have eg : gOf A c = i + 2 := by rw [← e]; exact gOf_pegW hW.1 hi
          have ef : fnd (A 38) A c = i := fnd_at hi e (fun j hj q => by have := hW.1.2.2.2.2.2.2.2.2.1 j i (by omega) hi (by rw [q, e]); omega)
          rw [eg, if_neg (show ¬ i + 2 = 0 by omega), if_pos rfl, ef, if_pos hi, if_pos rfl, if_pos (Or.inl e)]
        · by_cases hg : gOf A c = 0
          · rw [if_pos hg, if_neg z10, if_pos (Or.inr hg)]
          · rw [if_neg hg, if_pos rfl, if_neg (show ¬ (A i = c ∨ gOf A c = 0) from fun q => q.elim e hg), if_neg]
            intro q
            by_cases hl : fnd (A 38) A c < A 38
            · rw [if_pos hl, nI_eq (by omega) (by omega)] at q
              rcases fnd_spec (A 38) A c with ⟨a1, a2, -⟩ | ⟨a1, a2⟩
              · rw [q] at a2; exact e a2
              · omega
            · rw [if_neg hl] at q
              exact nneg4 (show i < 2 ^ 31 by omega) q.symm
      by_cases hq : A i = c ∨ gOf A c = 0
      · rw [if_pos hq] at ex
        have hq' : gOf A c = 0 ∨ A i = c := hq.symm
        have eo : ∀ k, k ≠ i → mvP A i c k = A k := fun k hk => pu_n _ _ hk
        refine op_pg h (B := mvP A i c) (r := nI (A i)) ⟨WFs_mvP hW.1 hi hc hq', fun j hj => ?_⟩ (eo _ (by omega)) ?_ (fun σ1 hM _ => ?_)
        · rw [eo _ (by omega)] at hj; rw [eo _ (by omega), eo _ (by omega)]; exact hW.2 j hj
        · rw [ex]
          exact ok_bind (x_movePeg h1 hW.1 hi hc hq') (fun y hy => ok_some ⟨rfl, hy⟩)
        · rw [em σ1 hM, if_pos hq]
          have := hM.pu (k := i) (v := c)
          rw [Nat.zero_add] at this
          exact ok_some ⟨rfl, this, Agr.rf.up (by unfold Pgp; omega)⟩
      · rw [if_neg hq] at ex
        exact op_0 h ex (by rw [em σ h.2.1, if_neg hq])
    · refine op_0 h (r := -1) ?_ ?_
      · unfold f_X9_shift
        rw [xp.1 hv, xCell.2 hca, if_neg z10, if_pos rfl]
      · unfold f_X10_shift
        rw [(mPeg (zrm h.2.1 (by omega)) (by omega)).1 hv, mCell.2 hca, if_neg z10, if_pos rfl]
  · refine op_0 h (r := -1) ?_ ?_
    · unfold f_X9_shift
      rw [xp.2 hv, if_pos rfl]
    · unfold f_X10_shift
      rw [(mPeg (zrm h.2.1 (by omega)) (by omega)).2 hv, if_pos rfl]
/-- a hedgehog can be let go there -/
theorem x_can {σ : Sg} {a d : Int32} {n : Nat} (hn : σ 1 7 = nI n) (hl : n < 2 ^ 31) : (vp_in a n ∧ vp_in d 8 → f_X9_canLetGo a d σ = 1) ∧ (¬ (vp_in a n ∧ vp_in d 8) → f_X9_canLetGo a d σ = 0) := by
  have xh := xHog (x := a) hn hl
  have xc := xCol (x := d)
  unfold f_X9_canLetGo
  constructor
  · rintro ⟨q1, q2⟩
    rw [xh.1 q1, xc.1 q2, if_neg z10, if_neg z10]
  · intro q
    by_cases q1 : vp_in a n
    · rw [xc.2 (fun z => q ⟨q1, z⟩), if_pos rfl, ite_self]
    · rw [xh.2 q1, if_pos rfl]
theorem op_sue {σ : Sg} (h : Inv σ) (a d : Int32) : Op (f_X9_sue a d σ) (f_X10_sue a d) := by
  obtain ⟨A, I, h⟩ := h
  have hW := h.2.2.2.1
  have w3 := hW.1.2.2.1
  have w4 := hW.1.2.2.2.1
  have xcn := x_can (a := a) (d := d) h.1.2.2.1 (by omega)
  have mh := mHog (x := a) h.2.2.1 (by omega)
  have mc := mCol (x := d)
  by_cases hv : vp_in a (A 41) ∧ vp_in d 8
  · obtain ⟨hva, hvd⟩ := id hv
    obtain ⟨i, hi, rfl⟩ := vin_nI hva (by omega)
    obtain ⟨c, hc, rfl⟩ := vin_nI hvd (by omega)
    obtain ⟨q1, q2⟩ := x_addSuit (w := i) (c := c) h.1 hW.1
    by_cases h6 : A 40 = 6
    · refine op_0 h (r := -3) ?_ ?_
      · unfold f_X9_sue
        rw [xcn.1 hv, if_neg z10, q1 h6]
        rfl
      · unfold f_X10_sue
        rw [mh.1 hva, mc.1 hvd, if_neg z10, if_neg z10, c40, zrm h.2.1 (by omega), h6]
        rfl
    · have eo : ∀ j, j ≠ 40 → j ≠ 26 + A 40 → j ≠ 32 + A 40 → pSuit A i c j = A j := fun j a1 a2 a3 => by unfold pSuit; rw [pu_n _ _ a1, pu_n _ _ a3, pu_n _ _ a2]
      have e40 : pSuit A i c 40 = A 40 + 1 := by unfold pSuit; rw [pu_s]
      have en : pSuit A i c (26 + A 40) = i := by unfold pSuit; rw [pu_n _ _ (by omega), pu_n _ _ (by omega), pu_s]
      refine op_pg h (B := pSuit A i c) (r := nI (A 40 + 1)) ⟨WFs_pSuit hW.1 (by omega) (by omega) hc, fun j hj => ?_⟩ (eo _ (by omega) (by omega) (by omega)) ?_ (fun σ1 hM h41 => ?_)
      · rw [eo 41 (by omega) (by omega) (by omega)]
        rw [e40] at hj
        by_cases e : j = A 40
        · subst e; rw [en]; exact hi
        · rw [eo _ (by omega) (by omega) (by omega)]; exact hW.2 j (by omega)
      · unfold f_X9_sue
        rw [xcn.1 hv, if_neg z10]
        exact ok_bind (q2 (by omega)) (fun y hy => ok_some hy)
      · unfold f_X10_sue
        have c6 : inR (nI (26 + A 40)) 205 = true := inR_of (vp_in_nI (by omega) (by omega))
        have c7 : inR (nI (32 + A 40)) 205 = true := inR_of (vp_in_nI (by omega) (by omega))
        rw [(mHog (x := nI i) h41 (by omega)).1 hva, mc.1 hvd, if_neg z10, if_neg z10, c40, zrm hM (by omega)]
        simp only [app]
        rw [if_neg (show ¬ nI (A 40) = 6 from nne (b := 6) h6 (by omega) (by omega)), show (26 : Int32) = nI 26 from rfl, show (32 : Int32) = nI 32 from rfl, nI_add, nI_add, if_pos c6, if_pos c7, nI_clamp (by omega), nI_clamp (by omega)]
        have e : up2 (up2 σ1 76 (26 + A 40) (nI i)) 76 (32 + A 40) (nI c) 76 40 = nI (A 40) := by
          rw [up2_slot _ _ (by omega), up2_slot _ _ (by omega)]
          exact zrm hM (by omega)
        rw [e, nI_1, up2_same]
        have := ((hM.pu (k := 26 + A 40) (v := i)).pu (k := 32 + A 40) (v := c)).pu (k := 40) (v := A 40 + 1)
        rw [Nat.zero_add, Nat.zero_add, Nat.zero_add] at this
        exact ok_some ⟨rfl, this, ((Agr.rf.up (by unfold Pgp; omega)).up (by unfold Pgp; omega)).up (by unfold Pgp; omega)⟩
  · refine op_0 h (r := -1) ?_ ?_
    · unfold f_X9_sue
      rw [xcn.2 hv, if_pos rfl]
    · unfold f_X10_sue
      by_cases q1 : vp_in a (A 41)
      · rw [mc.2 (fun z => hv ⟨q1, z⟩), if_pos rfl, ite_self]
      · rw [mh.2 q1, if_pos rfl]
theorem op_drop {σ : Sg} (h : Inv σ) (a : Int32) : Op (some (f_X9_drop a σ)) (f_X10_drop a) := by
  obtain ⟨A, I, h⟩ := h
  have hW := h.2.2.2.1
  have w1 := hW.1.1
  have w2 := hW.1.2.1
  have w3 := hW.1.2.2.1
  have w4 := hW.1.2.2.2.1
  have hm := inN (x := a) (n := A 40) (by omega)
  have hq := pq0 (x := a) (n := A 40) (by omega)
  by_cases hv : vp_in a (A 40 + 1)
  · obtain ⟨c1, c2⟩ := hq.mpr hv
    obtain ⟨j, hj, rfl⟩ := vin_nI hv (by omega)
    have eo : ∀ k, k ≠ 40 → pu A 40 j k = A k := fun k hk => pu_n _ _ hk
    have e40 : pu A 40 j 40 = j := pu_s _ _ _
    refine op_pg h (B := pu A 40 j) (r := nI (A 40)) ⟨?_, fun i hi => ?_⟩ (eo _ (by omega)) ?_ (fun σ1 hM _ => ?_)
    · obtain ⟨w1, w2, w3, w4, w5, w6, w7, w8, w9, w10, w11⟩ := hW.1
      refine ⟨by rw [eo _ (by omega)]; exact w1, by rw [eo _ (by omega)]; exact w2, by omega, by rw [eo _ (by omega)]; exact w4, fun i hi => ?_, fun i hi => ?_, fun i hi => ?_, fun i hi => ?_, fun i l hi hl => ?_, fun i l hi hl => ?_, fun i l hi hl => ?_⟩
      · rw [eo _ (by omega)] at hi; rw [eo i (by omega), eo _ (by omega)]; exact w5 i hi
      · rw [eo _ (by omega)] at hi; rw [eo _ (by omega)]; exact w6 i hi
      · rw [eo _ (by omega)] at hi; rw [eo _ (by omega), eo _ (by omega)]; exact w7 i hi
      · rw [e40] at hi; rw [eo _ (by omega), eo _ (by omega)]; exact w8 i (by omega)
      · rw [eo _ (by omega)] at hi hl; rw [eo i (by omega), eo l (by omega)]; exact w9 i l hi hl
      · rw [eo _ (by omega)] at hi hl; rw [eo i (by omega), eo _ (by omega)]; exact w10 i l hi hl
      · rw [eo _ (by omega)] at hi hl; rw [eo _ (by omega), eo _ (by omega)]; exact w11 i l hi hl
    · rw [e40] at hi; rw [eo _ (by omega), eo _ (by omega)]; exact hW.2 i (by omega)
    · unfold f_X9_drop
      rw [if_neg c1, h.1.2.2.2.1, if_pos c2]
      refine ok_some ⟨rfl, ?_, Fr.rf.up (by unfold slp; omega)⟩
      obtain ⟨g1, g2, g3, g4, g5, g6, g7, g8, g9⟩ := h.1
      refine ⟨by rw [eo _ (by omega)]; simp [up2, g1], by rw [eo _ (by omega)]; simp [up2, g2], by rw [eo _ (by omega)]; simp [up2, g3], by rw [e40]; simp [up2], fun i hi => ?_, fun i hi => ?_, fun i hi => ?_, fun i hi => ?_, fun x hx => ?_⟩
      · rw [eo _ (by omega)] at hi; rw [eo i (by omega), eo _ (by omega)]; simp [up2]; exact g5 i hi
      · rw [eo _ (by omega)] at hi; rw [eo _ (by omega)]; simp [up2]; exact g6 i hi
      · rw [eo _ (by omega)] at hi; rw [eo _ (by omega), eo _ (by omega)]; simp [up2]; exact g7 i hi
      · rw [e40] at hi; rw [eo _ (by omega), eo _ (by omega)]; simp [up2]; exact g8 i (by omega)
      · rw [← gOf_congr (A := A) (B := pu A 40 j) (fun k hk => (eo k (by omega)).symm) w1 w2]
        simp [up2]; exact g9 x hx
    · unfold f_X10_drop f_X10_puts
      rw [c40, zrm hM (by omega), hm.1 hv, if_neg z10]
      have c6 : inR (40 : Int32) 205 = true := inR_of (vp_in_nI (n := 40) (by omega) (by omega))
      rw [if_pos c6, if_pos c6, Option.bind_some]
      have := hM.pu (k := 40) (v := j)
      rw [Nat.zero_add] at this
      refine ok_some ⟨?_, this, Agr.rf.up (by unfold Pgp; omega)⟩
      rfl
  · refine op_0 h (r := -1) ?_ ?_
    · unfold f_X9_drop
      by_cases c1 : a < 0
      · rw [if_pos c1]
      · rw [if_neg c1, h.1.2.2.2.1, if_neg (fun c2 => hv (hq.mp ⟨c1, c2⟩))]
    · unfold f_X10_drop f_X10_puts
      rw [c40, zrm h.2.1 (by omega), hm.2 hv, if_pos rfl]
      rfl
