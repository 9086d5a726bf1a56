/-! keep, back, see, slug -/
theorem op_keep {σ : Sg} (h : Inv σ) (a : Int32) : Op (f_X9_keep a σ) (f_X10_keep a) := by
  obtain ⟨A, I, h⟩ := h
  obtain ⟨h1, h2, h3, h4, h5, h6, h7, h8, h9, h10, h11⟩ := id h
  have hm := mIn0 (x := a) (hi := 1) (n := 2) (by decide)
  by_cases hv : vp_in a 2
  · obtain ⟨i, hi, rfl⟩ := vin_nI hv (by omega)
    have c5 : inR (nI i) 2 = true := inR_of (vp_in_nI (by omega) (by omega))
    obtain ⟨g1, g2⟩ := x_copyFrom (b := 36 + 9 * i) h1 h4.1 (by omega)
    generalize hσ1 : f_X7_copyFrom (36 + 9 * i) 1 σ = σ1 at g1 g2
    have hM1 : RM 0 A (up2 σ1 35 i 1) := h2.keep (by rw [up2_cell _ _ _ (by decide)]; exact g2 76 (by unfold slp; omega))
    obtain ⟨σ2, f1, f2, f3⟩ := m_copies (p := 0) (q := 41 * (i + 1)) hM1 (by omega) (by omega) (by omega)
    have e84 : σ2 84 i = σ 84 i := by
      rw [f3 84 i (by unfold Pgp; omega), up2_cell _ _ _ (by decide), g2 84 (by unfold slp; omega)]
    obtain ⟨r, hr1, hr2⟩ : ∃ r : Int32, (if σ 35 i = 0 then (0 : Int32) else 1) = r ∧ (if σ 84 i = 0 then (0 : Int32) else 1) = r := by
      rcases h5 i hi with ⟨q1, q2⟩ | ⟨q1, q2, -⟩
      · exact ⟨0, by rw [q1]; rfl, by rw [q2]; rfl⟩
      · exact ⟨1, by rw [q1]; rfl, by rw [q2]; rfl⟩
    have hS : Agr (fun c j => (36 + 9 * i ≤ c ∧ c ≤ 36 + 9 * i + 8) ∨ (c = 35 ∧ j = i) ∨ (c = 84 ∧ j = i) ∨ (c = 76 ∧ 41 * (i + 1) ≤ j ∧ j < 41 * (i + 1) + 41)) σ (up2 σ2 84 i 1) := ((((Agr.fr g2 (fun c j z => by unfold slp at z; omega)).up (by omega)).tr (f3.mono (fun c j z => by unfold Pgp at z; omega))).up (by omega))
    refine ⟨r, up2 σ1 35 i 1, up2 σ2 84 i 1, ?_, ?_, A, fun k => if k = i then A else I k, h1.ag hS (fun c j z => by omega), h2.ag hS (fun j z => by omega), by rw [hS _ _ (by omega)]; exact h3, h4, fun k hk => ?_, h6.ag hS (fun c j z => by omega), h7.ag hS (fun c j z => by omega), by rw [hS _ _ (by omega), hS _ _ (by omega)]; exact h8, by rw [hS _ _ (by omega), hS _ _ (by omega)]; exact h9, h10.ag hS (fun c j z => by omega), h11.ag hS (fun c j z => by omega)⟩
    · unfold f_X9_keep
      rw [xImage.1 hv, if_neg z10, if_pos c5]
      simp only [app]
      rw [if_pos c5, if_pos c5, nI_clamp (by omega), hσ1, hr1]
    · unfold f_X10_keep
      have f1' : f_X10_copies 0 (nI (41 * (i + 1))) (up2 σ1 35 i 1) = some σ2 := f1
      rw [hm.1 hv, if_neg z10, nI_1, show (41 : Int32) = nI 41 from rfl, pk_mul, f1', Option.bind_some, if_pos c5]
      simp only [app]
      rw [if_pos c5, nI_clamp (by omega), e84, hr2]
    · by_cases e : k = i
      · subst e
        have e0 : (if k = k then A else I k) = A := if_pos rfl
        unfold Img
        dsimp only
        rw [e0]
        refine Or.inr ⟨?_, up2_same _ _ _ _, ?_, ?_, rfl, h4⟩
        · rw [up2_cell _ _ _ (by decide), f3 35 _ (by unfold Pgp; omega), up2_same]
        · refine g1.keep (fun j hj => ?_)
          rw [up2_cell _ _ _ (by omega)]
          funext l
          rw [f3 _ _ (by unfold Pgp; omega), up2_cell _ _ _ (by omega)]
        · exact f2.keep (up2_cell _ _ _ (by decide))
      · have := h5 k hk
        have e0 : (if k = i then A else I k) = I k := if_neg e
        unfold Img at this ⊢
        dsimp only
        rw [e0, hS 35 k (by omega), hS 84 k (by omega)]
        rcases this with q | ⟨q1, q2, q3, q4, q5⟩
        · exact Or.inl q
        · exact Or.inr ⟨q1, q2, q3.ag hS (fun c j z => by omega), q4.ag hS (fun j z => by omega), q5⟩
  · refine op_0 h (r := -1) ?_ ?_
    · unfold f_X9_keep
      rw [xImage.2 hv, if_pos rfl]
    · unfold f_X10_keep
      rw [hm.2 hv, if_pos rfl]
theorem op_back {σ : Sg} (h : Inv σ) (a : Int32) : Op (f_X9_back a σ) (f_X10_back a) := by
  obtain ⟨A, I, h⟩ := h
  obtain ⟨h1, h2, h3, h4, h5, h6, h7, h8, h9, h10, h11⟩ := id h
  have hm := mIn0 (x := a) (hi := 1) (n := 2) (by decide)
  by_cases hv : vp_in a 2
  · obtain ⟨i, hi, rfl⟩ := vin_nI hv (by omega)
    have c5 : inR (nI i) 2 = true := inR_of (vp_in_nI (by omega) (by omega))
    rcases h5 i hi with ⟨q1, q2⟩ | ⟨q1, q2, q3, q4, q5, q6⟩
    · refine op_0 h (r := -2) ?_ ?_
      · unfold f_X9_back
        rw [xImage.1 hv, if_neg z10, if_pos c5, nI_clamp (by omega), q1, if_pos rfl]
      · unfold f_X10_back
        rw [hm.1 hv, if_neg z10, if_pos c5, nI_clamp (by omega), q2, if_pos rfl]
    · obtain ⟨g1, g2⟩ := x_copyFrom (b := 1) q3 q6.1 (by omega)
      obtain ⟨⟨m, σ2⟩, f1, f2, f3⟩ := x_decided g1.g q6 gOf_lt2
      dsimp at f2 f3
      subst f2
      have h40 := q6.1.2.2.1
      have hM2 : RM (41 * (i + 1)) (I i) σ2 := q4.keep (by rw [f3 76 (by unfold crt; omega), g2 76 (by unfold slp; omega)])
      obtain ⟨σ3, p1, p2, p3⟩ := m_copies (p := 41 * (i + 1)) (q := 0) hM2 (by omega) (by omega) (by omega)
      obtain ⟨⟨m', σ4⟩, u1, u2, u3⟩ := m_winsAny (p := 0) p2 (by omega) q6
      dsimp at u2 u3
      subst u2
      generalize hP : bm (fun i_1 => decide (Wn (I i) (gOf (I i)) i_1 ≠ 0)) (I i 40) = B at f1 u1
      have hB : B < 1024 := by rw [← hP]; exact bm_1024 _ (by omega)
      have hx2 : RX 1 (I i) σ2 := (g1.g.cr f3).rx
      have hS : Agr Pgs σ σ4 := ((Agr.fr g2 (fun c j z => slp_Pgs z)).tr (Agr.fr f3 (fun c j z => by unfold crt at z; unfold Pgs scX; omega))).tr ((p3.mono (fun c j z => Pgp_Pgs z)).tr (fun c j z => by
        by_cases e : c = 75
        · subst e; exact u3.2 j (fun q => z (by unfold Pgs; omega)) (fun q => z (by unfold Pgs; omega)) (fun q => z (by unfold Pgs; omega)) (fun q => z (by unfold Pgs; omega))
        · by_cases e2 : c = 81
          · subst e2; exact absurd (by unfold Pgs; omega) z
          · rw [u3.1 c e e2]))
      refine ⟨nI (pop 10 B), σ2, σ4, ?_, ?_, I i, I, h.page hS (fun c j z => z) ?_ (p2.fr u3) q5 q6⟩
      · unfold f_X9_back
        rw [xImage.1 hv, if_neg z10, if_pos c5, if_pos c5, nI_clamp (by omega), q1, if_neg z10]
        simp only [app]
        rw [f1, Option.bind_some, x_bc B hB]
      · have e84 : σ2 84 i = 1 := by rw [f3 84 (by unfold crt; omega), g2 84 (by unfold slp; omega)]; exact q2
        unfold f_X10_back
        rw [hm.1 hv, if_neg z10, if_pos c5, nI_clamp (by omega), e84, if_neg z10, nI_1, show (41 : Int32) = nI 41 from rfl, pk_mul, show (0 : Int32) = nI 0 from rfl, p1, Option.bind_some, u1, Option.bind_some, m_bits B hB, Option.bind_some]
      · refine (hx2.ag p3 (fun c j z => by unfold Pgp at z; omega)).keep (fun k hk => u3.1 _ (by omega) (by omega))
  · refine op_0 h (r := -1) ?_ ?_
    · unfold f_X9_back
      rw [xImage.2 hv, if_pos rfl]
    · unfold f_X10_back
      rw [hm.2 hv, if_pos rfl]
theorem op_slug {σ : Sg} (h : Inv σ) (a : Int32) : ∃ r, f_X9_slug a σ = some r ∧ f_X10_slug a σ = some r := by
  obtain ⟨A, I, h⟩ := h
  have h1 := h.1
  have w2 := h.2.2.2.1.1.2.1
  have xs := xSlug (x := a) h1.2.1 (by omega)
  have ms : (vp_in a (A 39) → f_X10_in a.toInt64 0 ((nI (A 39) - 1).toInt64) = 1) ∧ (¬ vp_in a (A 39) → f_X10_in a.toInt64 0 ((nI (A 39) - 1).toInt64) = 0) := mIn0 (pred_toInt (by omega))
  unfold f_X9_slug f_X10_slug
  rw [c39, zrm h.2.1 (by omega)]
  by_cases hv : vp_in a (A 39)
  · obtain ⟨i, hi, rfl⟩ := vin_nI hv (by omega)
    have c5 : inR (nI i) 4 = true := inR_of (vp_in_nI (by omega) (by omega))
    have c6 : inR (nI (14 + i)) 205 = true := inR_of (vp_in_nI (by omega) (by omega))
    refine ⟨nI (A (14 + i)), ?_, ?_⟩
    · rw [xs.1 hv, if_neg z10, if_pos c5, nI_clamp (by omega), h1.2.2.2.2.2.1 i hi]
    · rw [ms.1 hv, if_neg z10, show (14 : Int32) = nI 14 from rfl, nI_add, if_pos c6, nI_clamp (by omega), zrm h.2.1 (by omega)]
  · exact ⟨-1, by rw [xs.2 hv, if_pos rfl], by rw [ms.2 hv, if_pos rfl]⟩
