/-! suit, run, way, kindly, need -/
theorem op_suit {σ : Sg} (h : Inv σ) (a b : Int32) : Op (f_X9_suit a b σ) (f_X10_suit a b) := by
  obtain ⟨A, I, h⟩ := h
  have hW := h.2.2.2.1
  have w3 := hW.1.2.2.1
  have xs := xSuit (x := a) h.1.2.2.2.1 (by omega)
  have ms := mSuit (x := a) (zrm h.2.1 (by omega) : σ 76 40 = nI (A 40)) (by omega)
  have m2 := mIn0 (x := b) (hi := 2) (n := 3) (by decide)
  by_cases hv : vp_in a (A 40)
  · obtain ⟨i, hi, rfl⟩ := vin_nI hv (by omega)
    have c5 : inR (nI i) 6 = true := inR_of (vp_in_nI (by omega) (by omega))
    have hx := h.1.2.2.2.2.2.2.2.1 i hi
    have i1 : inR (nI (26 + i)) 205 = true := inR_of (vp_in_nI (by omega) (by omega))
    have i2 : inR (nI (32 + i)) 205 = true := inR_of (vp_in_nI (by omega) (by omega))
    by_cases hb : vp_in b 3
    · rcases three hb with rfl | rfl | rfl
      · refine op_0 h (r := nI (A (26 + i))) ?_ ?_
        · unfold f_X9_suit
          rw [xs.1 hv, if_neg z10, if_pos rfl, if_pos c5, nI_clamp (by omega), hx.1]
        · unfold f_X10_suit
          rw [ms.1 hv, m2.1 hb, if_neg z10, if_neg z10, if_neg (by decide)]
          simp only [app]
          rw [show (26 : Int32) + 6 * 0 + nI i = nI (26 + i) from nI_add 26 i, if_pos i1, nI_clamp (by omega), zrm h.2.1 (by omega)]
      · refine op_0 h (r := nI (A (32 + i))) ?_ ?_
        · unfold f_X9_suit
          rw [xs.1 hv, if_neg z10, if_neg (by decide), if_pos rfl, if_pos c5, nI_clamp (by omega), hx.2]
        · unfold f_X10_suit
          rw [ms.1 hv, m2.1 hb, if_neg z10, if_neg z10, if_neg (by decide)]
          simp only [app]
          rw [show (26 : Int32) + 6 * 1 + nI i = nI (32 + i) from nI_add 32 i, if_pos i2, nI_clamp (by omega), zrm h.2.1 (by omega)]
      · refine op_q h (r := rI (Wn A (gOf A) i)) ?_ (fun σ1 h' => ?_)
        · unfold f_X9_suit
          rw [xs.1 hv, if_neg z10, if_neg (by decide), if_neg (by decide), if_pos rfl]
          exact ok_bind (x_letGoInSuit h.1.g hW gOf_lt2 hi) (fun y hy => ok_some ⟨hy.2.2.1, sx hy.1 (Or.inl rfl)⟩)
        · unfold f_X10_suit
          rw [(mSuit (x := nI i) (zrm h'.2.1 (by omega) : σ1 76 40 = nI (A 40)) (by omega)).1 hv, m2.1 hb, if_neg z10, if_neg z10, if_pos (by decide), show (26 : Int32) = nI 26 from rfl, show (32 : Int32) = nI 32 from rfl, nI_add, nI_add, if_pos i1, if_pos i2, nI_clamp (by omega), nI_clamp (by omega), zrm h'.2.1 (by omega), zrm h'.2.1 (by omega)]
          exact ok_bind (m_winnerOn (p := 0) h'.2.1 (by omega) hW.1 (hW.2 i hi) (hW.1.2.2.2.2.2.2.2.1 i hi).2) (fun y hy => ok_some ⟨hy.1, Same.m hy.2.1⟩)
    · obtain ⟨b0, b1, b2⟩ := nthree hb
      refine op_0 h (r := -1) ?_ ?_
      · unfold f_X9_suit
        rw [xs.1 hv, if_neg z10, if_neg b0, if_neg b1, if_neg b2]
      · unfold f_X10_suit
        rw [ms.1 hv, m2.2 hb, if_neg z10, if_pos rfl]
  · refine op_0 h (r := -1) ?_ ?_
    · unfold f_X9_suit
      rw [xs.2 hv, if_pos rfl]
    · unfold f_X10_suit
      rw [ms.2 hv, if_pos rfl]
theorem five {x : Int32} (h : vp_in x 5) : x = 0 ∨ x = 1 ∨ x = 2 ∨ x = 3 ∨ x = 4 := by
  obtain ⟨j, hj, rfl⟩ := vin_nI h (by omega)
  rcases (show j = 0 ∨ j = 1 ∨ j = 2 ∨ j = 3 ∨ j = 4 by omega) with rfl | rfl | rfl | rfl | rfl
  · exact Or.inl rfl
  · exact Or.inr (Or.inl rfl)
  · exact Or.inr (Or.inr (Or.inl rfl))
  · exact Or.inr (Or.inr (Or.inr (Or.inl rfl)))
  · exact Or.inr (Or.inr (Or.inr (Or.inr rfl)))
theorem nfive {x : Int32} (h : ¬ vp_in x 5) : ¬ x = 0 ∧ ¬ x = 1 ∧ ¬ x = 2 ∧ ¬ x = 3 ∧ ¬ x = 4 := by
  refine ⟨fun e => h ?_, fun e => h ?_, fun e => h ?_, fun e => h ?_, fun e => h ?_⟩
  · rw [e]; exact vp_in_nI (n := 0) (by omega) (by omega)
  · rw [e]; exact vp_in_nI (n := 1) (by omega) (by omega)
  · rw [e]; exact vp_in_nI (n := 2) (by omega) (by omega)
  · rw [e]; exact vp_in_nI (n := 3) (by omega) (by omega)
  · rw [e]; exact vp_in_nI (n := 4) (by omega) (by omega)
theorem op_run {σ : Sg} (h : Inv σ) (a d k : Int32) : Op (f_X9_run a d k σ) (f_X10_run a d k) := by
  obtain ⟨A, I, h⟩ := h
  have hW := h.2.2.2.1
  have w4 := hW.1.2.2.2.1
  have xcn := x_can (a := a) (d := d) h.1.2.2.1 (by omega)
  have mc := mCol (x := d)
  have m4 := mIn0 (x := k) (hi := 4) (n := 5) (by decide)
  by_cases hv : vp_in a (A 41) ∧ vp_in d 8
  · obtain ⟨hva, hvd⟩ := id hv
    obtain ⟨i, hi, rfl⟩ := vin_nI hva (by omega)
    obtain ⟨c, hc, rfl⟩ := vin_nI hvd (by omega)
    have ho := go_open (g := gOf A) (k := A (18 + i)) (o := no) 10 0 c (A (22 + i)) 0
    have hx : ∀ r, (∀ y : Sg, WEnd 1 A (gOf A) (A (18 + i)) (A (22 + i)) c σ y → Ok (if k = 0 then some ((y 11 0), y) else if k = 1 then some ((y 11 1), y) else if k = 2 then some ((y 11 2), y) else if k = 3 then some ((y 11 3), y) else if k = 4 then (if (y 11 4) = 0 then some ((0 : Int32), y) else some ((1 : Int32), y)) else some ((-1 : Int32), y)) (fun z => z.1 = r ∧ Same y z.2)) → Ok (f_X9_run (nI i) (nI c) k σ) (fun z => z.1 = r ∧ Same σ z.2) := fun r hk => by
      unfold f_X9_run
      rw [xcn.1 hv, if_neg z10]
      refine ok_bind (x_letGo h.1.g hW.1 gOf_lt2 hi hc) (fun y hy => ?_)
      exact ok_mono (hk y hy) (fun z hz => ⟨hz.1, (sx hy.1 (Or.inl rfl)).tr hz.2⟩)
    have hm : ∀ r, vp_in k 5 → (∀ (s : Sg) (y : Int32 × Sg), y.1 = rI (wc A (gOf A) i c) → MEnd (gOf A) (A (18 + i)) (A (22 + i)) c no s y.2 → Ok (if k = 0 then some ((y.2 75 16), y.2) else if k = (1 : Int32) then some (y.1, y.2) else if k = (2 : Int32) then some ((y.2 75 17), y.2) else if k = (3 : Int32) then some ((y.2 75 18), y.2) else if (y.2 75 19) = 0 then some ((0 : Int32), y.2) else some ((1 : Int32), y.2)) (fun z => z.1 = r ∧ Same y.2 z.2)) → ∀ σ1, InvA A I σ1 → Ok (f_X10_run (nI i) (nI c) k σ1) (fun z => z.1 = r ∧ Same σ1 z.2) := fun r hk5 hk σ1 h' => by
      unfold f_X10_run
      rw [(mHog (x := nI i) h'.2.2.1 (by omega)).1 hva, mc.1 hvd, m4.1 hk5, if_neg z10, if_neg z10, if_neg z10]
      refine ok_bind (m_winnerOn (p := 0) h'.2.1 (by omega) hW.1 hi hc) (fun y hy => ?_)
      exact ok_mono (hk σ1 y hy.1 hy.2) (fun z hz => ⟨hz.1, (Same.m hy.2.1).tr hz.2⟩)
    by_cases hk : vp_in k 5
    · rcases five hk with rfl | rfl | rfl | rfl | rfl
      · refine op_q h (hx (rI (go (gOf A) (A (18 + i)) no 10 0 c (A (22 + i)) 0).1) (fun y hy => ?_)) (hm _ hk (fun s y q1 hy => ?_))
        · rw [if_pos rfl]; exact ok_some ⟨hy.2.1, Same.rf⟩
        · rw [if_pos rfl]; exact ok_some ⟨hy.2.1, Same.rf⟩
      · refine op_q h (hx (rI (wc A (gOf A) i c)) (fun y hy => ?_)) (hm _ hk (fun s y q1 hy => ?_))
        · rw [if_neg (by decide), if_pos rfl]; exact ok_some ⟨hy.2.2.1, Same.rf⟩
        · rw [if_neg (by decide), if_pos rfl]; exact ok_some ⟨q1, Same.rf⟩
      · refine op_q h (hx (nI (go (gOf A) (A (18 + i)) no 10 0 c (A (22 + i)) 0).2.1) (fun y hy => ?_)) (hm _ hk (fun s y q1 hy => ?_))
        · rw [if_neg (by decide), if_neg (by decide), if_pos rfl]; exact ok_some ⟨hy.2.2.2.1, Same.rf⟩
        · rw [if_neg (by decide), if_neg (by decide), if_pos rfl]; exact ok_some ⟨hy.2.2.1, Same.rf⟩
      · refine op_q h (hx (nI (go (gOf A) (A (18 + i)) no 10 0 c (A (22 + i)) 0).2.2.1) (fun y hy => ?_)) (hm _ hk (fun s y q1 hy => ?_))
        · rw [if_neg (by decide), if_neg (by decide), if_neg (by decide), if_pos rfl]; exact ok_some ⟨hy.2.2.2.2.1, Same.rf⟩
        · rw [if_neg (by decide), if_neg (by decide), if_neg (by decide), if_pos rfl]; exact ok_some ⟨hy.2.2.2.1, Same.rf⟩
      · refine op_q h (hx (nI (go (gOf A) (A (18 + i)) no 10 0 c (A (22 + i)) 0).2.2.2) (fun y hy => ?_)) (hm _ hk (fun s y q1 hy => ?_))
        · have e4 : y 11 4 = nI (go (gOf A) (A (18 + i)) no 10 0 c (A (22 + i)) 0).2.2.2 := hy.2.2.2.2.2.1
          rw [if_neg (by decide), if_neg (by decide), if_neg (by decide), if_neg (by decide), if_pos rfl, e4]
          rcases (show (go (gOf A) (A (18 + i)) no 10 0 c (A (22 + i)) 0).2.2.2 = 0 ∨ (go (gOf A) (A (18 + i)) no 10 0 c (A (22 + i)) 0).2.2.2 = 1 by omega) with z | z
          · rw [z, if_pos (by decide)]; exact ok_some ⟨rfl, Same.rf⟩
          · rw [z, if_neg (by decide)]; exact ok_some ⟨rfl, Same.rf⟩
        · have e4 := hy.2.2.2.2.1
          rw [if_neg (by decide), if_neg (by decide), if_neg (by decide), if_neg (by decide), e4]
          rcases (show (go (gOf A) (A (18 + i)) no 10 0 c (A (22 + i)) 0).2.2.2 = 0 ∨ (go (gOf A) (A (18 + i)) no 10 0 c (A (22 + i)) 0).2.2.2 = 1 by omega) with z | z
          · rw [z, if_pos (by decide)]; exact ok_some ⟨rfl, Same.rf⟩
          · rw [z, if_neg (by decide)]; exact ok_some ⟨rfl, Same.rf⟩
    · obtain ⟨b0, b1, b2, b3, b4⟩ := nfive hk
      refine op_q h (hx (-1) (fun y hy => ?_)) (fun σ1 h' => ?_)
      · rw [if_neg b0, if_neg b1, if_neg b2, if_neg b3, if_neg b4]; exact ok_some ⟨rfl, Same.rf⟩
      · unfold f_X10_run
        rw [(mHog (x := nI i) h'.2.2.1 (by omega)).1 hva, mc.1 hvd, m4.2 hk, if_neg z10, if_neg z10, if_pos rfl]
        exact ok_some ⟨rfl, Same.rf⟩
  · refine op_0 h (r := -1) ?_ ?_
    · unfold f_X9_run
      rw [xcn.2 hv, if_pos rfl]
    · unfold f_X10_run
      by_cases q1 : vp_in a (A 41)
      · rw [mc.2 (fun z => hv ⟨q1, z⟩), if_pos rfl, ite_self]
      · rw [(mHog (x := a) h.2.2.1 (by omega)).2 q1, if_pos rfl]
theorem op_way {σ : Sg} (h : Inv σ) (a d k : Int32) : Op (f_X9_way a d k σ) (f_X10_way a d k) := by
  obtain ⟨A, I, h⟩ := h
  have hW := h.2.2.2.1
  have w4 := hW.1.2.2.2.1
  have xcn := x_can (a := a) (d := d) h.1.2.2.1 (by omega)
  have mc := mCol (x := d)
  have m9 := mIn0 (x := k) (hi := 9) (n := 10) (by decide)
  by_cases hv : vp_in a (A 41) ∧ vp_in d 8
  · obtain ⟨hva, hvd⟩ := id hv
    by_cases hk : vp_in k 10
    · obtain ⟨i, hi, rfl⟩ := vin_nI hva (by omega)
      obtain ⟨c, hc, rfl⟩ := vin_nI hvd (by omega)
      obtain ⟨j, hj, rfl⟩ := vin_nI hk (by omega)
      have c5 : inR (nI j) 10 = true := inR_of (vp_in_nI (by omega) (by omega))
      generalize hR : (go (gOf A) (A (18 + i)) no 10 0 c (A (22 + i)) 0).2.1 = R
      have hR10 : R ≤ 10 := by rw [← hR]; have := go_row (g := gOf A) (k := A (18 + i)) (o := no) 10 0 c (A (22 + i)) 0; omega
      by_cases hjR : j ≤ R
      · refine op_q h (r := nI (pth (gOf A) (A (18 + i)) no 10 0 c (A (22 + i)) j)) ?_ (fun σ1 h' => ?_)
        · unfold f_X9_way
          rw [xcn.1 hv, if_neg z10, if_neg (nlt (by omega)), if_pos (show nI j < 10 from nI_lt (b := 10) hj (by omega))]
          refine ok_bind (x_letGo h.1.g hW.1 gOf_lt2 hi hc) (fun y hy => ?_)
          have e2 : y 11 2 = nI R := by rw [← hR]; exact hy.2.2.2.1
          rw [e2, if_pos (nle hjR (by omega)), if_pos c5, nI_clamp (by omega)]
          exact ok_some ⟨hy.2.2.2.2.2.2 j (by omega) hj, sx hy.1 (Or.inl rfl)⟩
        · unfold f_X10_way
          rw [(mHog (x := nI i) h'.2.2.1 (by omega)).1 hva, mc.1 hvd, m9.1 hk, if_neg z10, if_neg z10, if_neg z10]
          refine ok_bind (m_runs0 (p := 0) h'.2.1 (by omega) hW.1 hi hc) (fun y hy => ?_)
          have e2 : y 75 17 = nI R := by rw [← hR]; exact hy.2.2.1
          rw [e2, if_neg (show ¬ nI R < nI j by rw [Int32.lt_iff_toInt_lt, nI_toInt (by omega), nI_toInt (by omega)]; omega), if_pos c5, nI_clamp (by omega)]
          exact ok_some ⟨hy.2.2.2.2.2 j (by omega) hj, Same.m hy.1⟩
      · refine op_q h (r := -4) ?_ (fun σ1 h' => ?_)
        · unfold f_X9_way
          rw [xcn.1 hv, if_neg z10, if_neg (nlt (by omega)), if_pos (show nI j < 10 from nI_lt (b := 10) hj (by omega))]
          refine ok_bind (x_letGo h.1.g hW.1 gOf_lt2 hi hc) (fun y hy => ?_)
          have e2 : y 11 2 = nI R := by rw [← hR]; exact hy.2.2.2.1
          rw [e2, if_neg (nnle (by omega) (by omega))]
          exact ok_some ⟨rfl, sx hy.1 (Or.inl rfl)⟩
        · unfold f_X10_way
          rw [(mHog (x := nI i) h'.2.2.1 (by omega)).1 hva, mc.1 hvd, m9.1 hk, if_neg z10, if_neg z10, if_neg z10]
          refine ok_bind (m_runs0 (p := 0) h'.2.1 (by omega) hW.1 hi hc) (fun y hy => ?_)
          have e2 : y 75 17 = nI R := by rw [← hR]; exact hy.2.2.1
          rw [e2, if_pos (nI_lt (by omega) (by omega))]
          exact ok_some ⟨rfl, Same.m hy.1⟩
    · refine op_0 h (r := -1) ?_ ?_
      · unfold f_X9_way
        rw [xcn.1 hv, if_neg z10]
        by_cases d1 : k < 0
        · rw [if_pos d1]
        · rw [if_neg d1, if_neg (show ¬ k < 10 from fun z => hk (vin_iff.mpr ⟨by rw [lt0] at d1; omega, (lnle_iff (n := 10) (by omega)).mp z⟩))]
      · unfold f_X10_way
        rw [(mHog (x := a) h.2.2.1 (by omega)).1 hva, mc.1 hvd, m9.2 hk, if_neg z10, if_neg z10, if_pos rfl]
  · refine op_0 h (r := -1) ?_ ?_
    · unfold f_X9_way
      rw [xcn.2 hv, if_pos rfl]
    · unfold f_X10_way
      by_cases q1 : vp_in a (A 41)
      · rw [mc.2 (fun z => hv ⟨q1, z⟩), if_pos rfl, ite_self]
      · rw [(mHog (x := a) h.2.2.1 (by omega)).2 q1, if_pos rfl]
