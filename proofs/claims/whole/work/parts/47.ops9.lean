/-! rule, peg, hedgehog, suit, run, way -/
theorem op_rule {σ : Sg} (h : Inv σ) (a : Int32) : Op (f_X9_rule a σ) (f_X10_rule a) := by
  obtain ⟨A, I, h⟩ := h
  have h1 := h.1
  have hm : ∀ (r : Int32) (σ1 : Sg), InvA A I σ1 → (∀ y : Int32 × Int32 × Sg, y.1 = nI (bm (fun i => decide ((SR A (gOf A) i).2.2.2 ≠ 0)) (A 40)) → RM 0 A y.2.2 → y.2.2 75 1 = nI (A 41) → Ok (if a = 0 then
    some ((y.2.2 76 (38 : Int32).toNatClampNeg), y.2.2)
  else
    if a = 1 then
      some ((y.2.2 76 (39 : Int32).toNatClampNeg), y.2.2)
    else
      if a = 2 then
        some ((y.2.2 75 1), y.2.2)
      else
        if a = 3 then
          some ((y.2.2 76 (40 : Int32).toNatClampNeg), y.2.2)
        else
          if a = 4 then
            (f_X10_winsOn (0 : Int32) (-4 : Int32) y.2.2).bind fun (y14 : (Int32 × Sg)) =>
            some (y14.1, y14.2)
          else
            if a = 5 then
              some (y.1, y.2.2)
            else
              some ((-1 : Int32), y.2.2)) (fun z => z.1 = r ∧ Same y.2.2 z.2)) → Ok (f_X10_rule a σ1) (fun z => z.1 = r ∧ Same σ1 z.2) := by
    intro r σ1 h' hk
    unfold f_X10_rule
    refine ok_bind (m_opened h'.2.1 h'.2.2.2.1) (fun y hy => ?_)
    have hs := Same.m hy.2
    have h'' := h'.same hs
    exact ok_mono (hk y hy.1 h''.2.1 h''.2.2.1) (fun z hz => ⟨hz.1, hs.tr hz.2⟩)
  by_cases e0 : a = 0
  · refine op_q h (r := nI (A 38)) ?_ (fun σ1 h' => hm _ σ1 h' (fun y q1 q2 q3 => ?_))
    · unfold f_X9_rule; rw [if_pos e0]; exact ok_some ⟨h1.1, Same.rf⟩
    · rw [if_pos e0]; exact ok_some ⟨zrm (k := 38) q2 (by omega), Same.rf⟩
  by_cases e1 : a = 1
  · refine op_q h (r := nI (A 39)) ?_ (fun σ1 h' => hm _ σ1 h' (fun y q1 q2 q3 => ?_))
    · unfold f_X9_rule; rw [if_neg e0, if_pos e1]; exact ok_some ⟨h1.2.1, Same.rf⟩
    · rw [if_neg e0, if_pos e1]; exact ok_some ⟨zrm (k := 39) q2 (by omega), Same.rf⟩
  by_cases e2 : a = 2
  · refine op_q h (r := nI (A 41)) ?_ (fun σ1 h' => hm _ σ1 h' (fun y q1 q2 q3 => ?_))
    · unfold f_X9_rule; rw [if_neg e0, if_neg e1, if_pos e2]; exact ok_some ⟨h1.2.2.1, Same.rf⟩
    · rw [if_neg e0, if_neg e1, if_pos e2]; exact ok_some ⟨q3, Same.rf⟩
  by_cases e3 : a = 3
  · refine op_q h (r := nI (A 40)) ?_ (fun σ1 h' => hm _ σ1 h' (fun y q1 q2 q3 => ?_))
    · unfold f_X9_rule; rw [if_neg e0, if_neg e1, if_neg e2, if_pos e3]; exact ok_some ⟨h1.2.2.2.1, Same.rf⟩
    · rw [if_neg e0, if_neg e1, if_neg e2, if_pos e3]; exact ok_some ⟨zrm (k := 40) q2 (by omega), Same.rf⟩
  by_cases e4 : a = 4
  · refine op_q h (r := nI (bm (fun i => decide (Wn A (gOf A) i ≠ 0)) (A 40))) ?_ (fun σ1 h' => hm _ σ1 h' (fun y q1 q2 q3 => ?_))
    · unfold f_X9_rule; rw [if_neg e0, if_neg e1, if_neg e2, if_neg e3, if_pos e4]
      exact ok_bind (x_decided h1.g h.2.2.2.1 gOf_lt2) (fun y hy => ok_some ⟨hy.1, sx hy.2 (Or.inl rfl)⟩)
    · rw [if_neg e0, if_neg e1, if_neg e2, if_neg e3, if_pos e4]
      exact ok_bind (m_winsAny (p := 0) q2 (by omega) h'.2.2.2.1) (fun y hy => ok_some ⟨hy.1, Same.m hy.2⟩)
  by_cases e5 : a = 5
  · refine op_q h (r := nI (bm (fun i => decide ((SR A (gOf A) i).2.2.2 ≠ 0)) (A 40))) ?_ (fun σ1 h' => hm _ σ1 h' (fun y q1 q2 q3 => ?_))
    · unfold f_X9_rule; rw [if_neg e0, if_neg e1, if_neg e2, if_neg e3, if_neg e4, if_pos e5]
      exact ok_bind (x_opened h1.g h.2.2.2.1 gOf_lt2) (fun y hy => ok_some ⟨hy.1, sx hy.2 (Or.inl rfl)⟩)
    · rw [if_neg e0, if_neg e1, if_neg e2, if_neg e3, if_neg e4, if_pos e5]
      exact ok_some ⟨q1, Same.rf⟩
  · refine op_q h (r := -1) ?_ (fun σ1 h' => hm _ σ1 h' (fun y q1 q2 q3 => ?_))
    · unfold f_X9_rule; rw [if_neg e0, if_neg e1, if_neg e2, if_neg e3, if_neg e4, if_neg e5]; exact ok_some ⟨rfl, Same.rf⟩
    · rw [if_neg e0, if_neg e1, if_neg e2, if_neg e3, if_neg e4, if_neg e5]; exact ok_some ⟨rfl, Same.rf⟩
theorem three {x : Int32} (h : vp_in x 3) : x = 0 ∨ x = 1 ∨ x = 2 := by
  obtain ⟨j, hj, rfl⟩ := vin_nI h (by omega)
  rcases (show j = 0 ∨ j = 1 ∨ j = 2 by omega) with rfl | rfl | rfl
  · exact Or.inl rfl
  · exact Or.inr (Or.inl rfl)
  · exact Or.inr (Or.inr rfl)
theorem nthree {x : Int32} (h : ¬ vp_in x 3) : ¬ x = 0 ∧ ¬ x = 1 ∧ ¬ x = 2 := by
  refine ⟨fun e => h ?_, fun e => h ?_, fun e => h ?_⟩
  · rw [e]; exact vp_in_nI (n := 0) (by omega) (by omega)
  · rw [e]; exact vp_in_nI (n := 1) (by omega) (by omega)
  · rw [e]; exact vp_in_nI (n := 2) (by omega) (by omega)
theorem op_peg {σ : Sg} (h : Inv σ) (a b : Int32) : Op (f_X9_peg a b σ) (f_X10_peg a b) := by
  obtain ⟨A, I, h⟩ := h
  have w1 := h.2.2.2.1.1.1
  have xp := xPeg (x := a) h.1.1 (by omega)
  have mp := mPeg (x := a) (zrm h.2.1 (by omega) : σ 76 38 = nI (A 38)) (by omega)
  have m2 := mIn0 (x := b) (hi := 2) (n := 3) (by decide)
  by_cases hv : vp_in a (A 38)
  · obtain ⟨i, hi, rfl⟩ := vin_nI hv (by omega)
    have c5 : inR (nI i) 7 = true := inR_of (vp_in_nI (by omega) (by omega))
    by_cases hb : vp_in b 3
    · have hm : ∀ (r : Int32) (σ1 : Sg), InvA A I σ1 → (∀ y : Int32 × Int32 × Sg, y.1 = nI (bm (fun j => decide ((SR A (gOf A) j).1 = i + 1)) (A 40)) → RM 0 A y.2.2 → Ok (if (2 : Int32) ≤ b then some (y.1, y.2.2) else if inR (((7 : Int32) * b) + nI i) 205 then some ((y.2.2 76 (((7 : Int32) * b) + nI i).toNatClampNeg), y.2.2) else none) (fun z => z.1 = r ∧ Same y.2.2 z.2)) → Ok (f_X10_peg (nI i) b σ1) (fun z => z.1 = r ∧ Same σ1 z.2) := by
        intro r σ1 h' hk
        unfold f_X10_peg
        rw [(mPeg (zrm h'.2.1 (by omega) : σ1 76 38 = nI (A 38)) (by omega)).1 hv, m2.1 hb, if_neg z10, if_neg z10]
        refine ok_bind (m_restedOn h'.2.1 h'.2.2.2.1 (by omega)) (fun y hy => ?_)
        have hs := Same.m hy.2
        exact ok_mono (hk y hy.1 (h'.same hs).2.1) (fun z hz => ⟨hz.1, hs.tr hz.2⟩)
      rcases three hb with rfl | rfl | rfl
      · refine op_q h (r := nI (A i)) ?_ (fun σ1 h' => hm _ σ1 h' (fun y q1 q2 => ?_))
        · unfold f_X9_peg
          rw [xp.1 hv, if_neg z10, if_pos rfl, if_pos c5, nI_clamp (by omega)]
          exact ok_some ⟨(h.1.2.2.2.2.1 i hi).1, Same.rf⟩
        · rw [if_neg (by decide), show (7 : Int32) * 0 + nI i = nI (0 + i) from nI_add 0 i, if_pos (inR_of (vp_in_nI (by omega) (by omega))), nI_clamp (by omega), Nat.zero_add]
          exact ok_some ⟨zrm q2 (by omega), Same.rf⟩
      · refine op_q h (r := nI (A (7 + i))) ?_ (fun σ1 h' => hm _ σ1 h' (fun y q1 q2 => ?_))
        · unfold f_X9_peg
          rw [xp.1 hv, if_neg z10, if_neg (by decide), if_pos rfl, if_pos c5, nI_clamp (by omega)]
          exact ok_some ⟨(h.1.2.2.2.2.1 i hi).2, Same.rf⟩
        · rw [if_neg (by decide), show (7 : Int32) * 1 + nI i = nI (7 + i) from nI_add 7 i, if_pos (inR_of (vp_in_nI (by omega) (by omega))), nI_clamp (by omega)]
          exact ok_some ⟨zrm q2 (by omega), Same.rf⟩
      · refine op_q h (r := nI (bm (fun j => decide ((SR A (gOf A) j).1 = i + 1)) (A 40))) ?_ (fun σ1 h' => hm _ σ1 h' (fun y q1 q2 => ?_))
        · unfold f_X9_peg
          rw [xp.1 hv, if_neg z10, if_neg (by decide), if_neg (by decide), if_pos rfl]
          exact ok_bind (x_restedOn h.1.g h.2.2.2.1 gOf_lt2 (by omega)) (fun y hy => ok_some ⟨hy.1, sx hy.2 (Or.inl rfl)⟩)
        · rw [if_pos (by decide)]
          exact ok_some ⟨q1, Same.rf⟩
    · obtain ⟨b0, b1, b2⟩ := nthree hb
      refine op_0 h (r := -1) ?_ ?_
      · unfold f_X9_peg
        rw [xp.1 hv, if_neg z10, if_neg b0, if_neg b1, if_neg b2]
      · unfold f_X10_peg
        rw [mp.1 hv, m2.2 hb, if_neg z10, if_pos rfl]
  · refine op_0 h (r := -1) ?_ ?_
    · unfold f_X9_peg
      rw [xp.2 hv, if_pos rfl]
    · unfold f_X10_peg
      rw [mp.2 hv, if_pos rfl]
theorem four {x : Int32} (h : vp_in x 4) : x = 0 ∨ x = 1 ∨ x = 2 ∨ x = 3 := by
  obtain ⟨j, hj, rfl⟩ := vin_nI h (by omega)
  rcases (show j = 0 ∨ j = 1 ∨ j = 2 ∨ j = 3 by omega) with rfl | rfl | rfl | rfl
  · exact Or.inl rfl
  · exact Or.inr (Or.inl rfl)
  · exact Or.inr (Or.inr (Or.inl rfl))
  · exact Or.inr (Or.inr (Or.inr rfl))
theorem nfour {x : Int32} (h : ¬ vp_in x 4) : ¬ x = 0 ∧ ¬ x = 1 ∧ ¬ x = 2 ∧ ¬ x = 3 := by
  refine ⟨fun e => h ?_, fun e => h ?_, fun e => h ?_, fun e => h ?_⟩
  · rw [e]; exact vp_in_nI (n := 0) (by omega) (by omega)
  · rw [e]; exact vp_in_nI (n := 1) (by omega) (by omega)
  · rw [e]; exact vp_in_nI (n := 2) (by omega) (by omega)
  · rw [e]; exact vp_in_nI (n := 3) (by omega) (by omega)
theorem op_hedgehog {σ : Sg} (h : Inv σ) (a b : Int32) : Op (f_X9_hedgehog a b σ) (f_X10_hedgehog a b) := by
  obtain ⟨A, I, h⟩ := h
  have w4 := h.2.2.2.1.1.2.2.2.1
  have w7 := h.2.2.2.1.1.2.2.2.2.2.2.1
  have xh := xHog (x := a) h.1.2.2.1 (by omega)
  have mh := mHog (x := a) h.2.2.1 (by omega)
  have m3 := mIn0 (x := b) (hi := 3) (n := 4) (by decide)
  by_cases hv : vp_in a (A 41)
  · obtain ⟨i, hi, rfl⟩ := vin_nI hv (by omega)
    have c5 : inR (nI i) 4 = true := inR_of (vp_in_nI (by omega) (by omega))
    by_cases hb : vp_in b 4
    · have hm : ∀ (r : Int32) (σ1 : Sg), InvA A I σ1 → (∀ y : Int32 × Int32 × Sg, y.1 = nI (bm (fun c => decide ((go (gOf A) (A (18 + i)) no 10 0 c (A (22 + i)) 0).1 ≠ 0)) 8) → RM 0 A y.2.2 → Ok (if (2 : Int32) ≤ b then (if b = (2 : Int32) then if inR ((18 : Int32) + nI i) 205 then some ((f_X10_losesOf (y.2.2 76 ((18 : Int32) + nI i).toNatClampNeg)), y.2.2) else none else some (y.1, y.2.2)) else app (((18 : Int32) + ((4 : Int32) * b)) + nI i) fun (v12 : Int32) => if inR v12 205 then some ((y.2.2 76 v12.toNatClampNeg), y.2.2) else none) (fun z => z.1 = r ∧ Same y.2.2 z.2)) → Ok (f_X10_hedgehog (nI i) b σ1) (fun z => z.1 = r ∧ Same σ1 z.2) := by
        intro r σ1 h' hk
        unfold f_X10_hedgehog
        rw [(mHog (x := nI i) h'.2.2.1 (by omega)).1 hv, m3.1 hb, if_neg z10, if_neg z10]
        refine ok_bind (m_restingColumns h'.2.1 h'.2.2.2.1.1 hi) (fun y hy => ?_)
        have hs := Same.m hy.2
        exact ok_mono (hk y hy.1 (h'.same hs).2.1) (fun z hz => ⟨hz.1, hs.tr hz.2⟩)
      have hx := h.1.2.2.2.2.2.2.1 i hi
      rcases four hb with rfl | rfl | rfl | rfl
      · refine op_q h (r := nI (A (18 + i))) ?_ (fun σ1 h' => hm _ σ1 h' (fun y q1 q2 => ?_))
        · unfold f_X9_hedgehog
          rw [xh.1 hv, if_neg z10, if_pos rfl, if_pos c5, nI_clamp (by omega)]
          exact ok_some ⟨hx.1, Same.rf⟩
        · rw [if_neg (by decide)]
          refine ok_app ?_
          rw [show (18 : Int32) + 4 * 0 + nI i = nI (18 + i) from nI_add 18 i, if_pos (inR_of (vp_in_nI (by omega) (by omega))), nI_clamp (by omega)]
          exact ok_some ⟨zrm q2 (by omega), Same.rf⟩
      · refine op_q h (r := nI (A (22 + i))) ?_ (fun σ1 h' => hm _ σ1 h' (fun y q1 q2 => ?_))
        · unfold f_X9_hedgehog
          rw [xh.1 hv, if_neg z10, if_neg (by decide), if_pos rfl, if_pos c5, nI_clamp (by omega)]
          exact ok_some ⟨hx.2, Same.rf⟩
        · rw [if_neg (by decide)]
          refine ok_app ?_
          rw [show (18 : Int32) + 4 * 1 + nI i = nI (22 + i) from nI_add 22 i, if_pos (inR_of (vp_in_nI (by omega) (by omega))), nI_clamp (by omega)]
          exact ok_some ⟨zrm q2 (by omega), Same.rf⟩
      · refine op_q h (r := nI (lose (A (18 + i)))) ?_ (fun σ1 h' => hm _ σ1 h' (fun y q1 q2 => ?_))
        · unfold f_X9_hedgehog
          rw [xh.1 hv, if_neg z10, if_neg (by decide), if_neg (by decide), if_pos rfl, if_pos c5, nI_clamp (by omega)]
          exact ok_some ⟨by dsimp only; rw [hx.1, xloss _ (w7 i hi).1], Same.rf⟩
        · rw [if_pos (by decide), if_pos rfl, show (18 : Int32) + nI i = nI (18 + i) from nI_add 18 i, if_pos (inR_of (vp_in_nI (by omega) (by omega))), nI_clamp (by omega)]
          exact ok_some ⟨by dsimp only; rw [zrm q2 (by omega), mloses _ (w7 i hi).1], Same.rf⟩
      · refine op_q h (r := nI (bm (fun c => decide ((go (gOf A) (A (18 + i)) no 10 0 c (A (22 + i)) 0).1 ≠ 0)) 8)) ?_ (fun σ1 h' => hm _ σ1 h' (fun y q1 q2 => ?_))
        · unfold f_X9_hedgehog
          rw [xh.1 hv, if_neg z10, if_neg (by decide), if_neg (by decide), if_neg (by decide), if_pos rfl]
          exact ok_bind (x_restingColumns h.1.g h.2.2.2.1.1 gOf_lt2 hi) (fun y hy => ok_some ⟨hy.1, sx hy.2 (Or.inl rfl)⟩)
        · rw [if_pos (by decide), if_neg (by decide)]
          exact ok_some ⟨q1, Same.rf⟩
    · obtain ⟨b0, b1, b2, b3⟩ := nfour hb
      refine op_0 h (r := -1) ?_ ?_
      · unfold f_X9_hedgehog
        rw [xh.1 hv, if_neg z10, if_neg b0, if_neg b1, if_neg b2, if_neg b3]
      · unfold f_X10_hedgehog
        rw [mh.1 hv, m3.2 hb, if_neg z10, if_pos rfl]
  · refine op_0 h (r := -1) ?_ ?_
    · unfold f_X9_hedgehog
      rw [xh.2 hv, if_pos rfl]
    · unfold f_X10_hedgehog
      rw [mh.2 hv, if_pos rfl]
