theorem op_q2 {A : Pg} {I : Nat → Pg} {σ : Sg} {t1 : Option (Int32 × Sg)} {t2 : Sg → Option (Int32 × Sg)} {r : Int32} (h : InvA A I σ) (hx : Ok t1 (fun y => y.1 = r ∧ Same σ y.2)) (hm : ∀ σ1, Same σ σ1 → Ok (t2 σ1) (fun y => y.1 = r ∧ Same σ y.2)) : Op t1 t2 := by
  obtain ⟨⟨r1, σ1⟩, e1, rfl, q1⟩ := hx
  obtain ⟨⟨r2, σ2⟩, e2, q, q2⟩ := hm σ1 q1
  dsimp at q q2 q1
  subst q
  exact ⟨_, σ1, σ2, e1, e2, A, I, h.same q2⟩
theorem Same.s13u {σ s : Sg} {c j : Nat} {x : Int32} (h : Same σ s) (hc : 10 ≤ c ∧ c ≤ 29) : Same σ (up2 s c j x) := h.tr (Same.fr (p := fun q => q = c) (fun q hq => up2_cell _ _ _ hq) (fun q hq => by unfold scX; omega))
theorem op_kinds {σ : Sg} (h : Inv σ) (a : Int32) : Op (f_X9_kinds a σ) (f_X10_kinds a) := by
  obtain ⟨A, I, h⟩ := h
  have hW := h.2.2.2.1
  have w4 := hW.1.2.2.2.1
  have xh := xHog (x := a) h.1.2.2.1 (by omega)
  obtain ⟨n, hn, hn1, hn2, hS⟩ := h.2.2.2.2.2.2.1
  by_cases hv : vp_in a (A 41)
  · obtain ⟨i, hi, rfl⟩ := vin_nI hv (by omega)
    have i4 : inR (nI i) 4 = true := inR_of (vp_in_nI (by omega) (by omega))
    have w7 := hW.1.2.2.2.2.2.2.1 i hi
    have eB : ∀ k x, x ≠ 18 + i → pu A (18 + i) k x = A x := fun k x hx => pu_n _ _ hx
    refine op_q2 h (r := nI (bm (fun k => aE σ (pu A (18 + i) k) n) 4)) ?_ (fun σ1 hs1 => ?_)
    · obtain ⟨g1, g2⟩ := x_copyFrom (b := 13) h.1 hW.1 (by omega)
      unfold f_X9_kinds
      rw [xh.1 hv, if_neg z10]
      refine ok_app ?_
      have hs0 : Same σ (f_X7_copyFrom 13 1 σ) := Same.rf.s13 g2
      generalize f_X7_copyFrom 13 1 σ = s0 at g1 g2 hs0
      refine ok_bind (Q := fun y => y.1 = nI (bm (fun k => aE σ (pu A (18 + i) k) n) 4) ∧ Same σ y.2) ?_ (fun y hy => ok_some hy)
      unfold f_X5_fittingKinds
      refine ok_bind (Q := fun y => y.1 = nI (bm (fun k => aE σ (pu A (18 + i) k) n) 4) ∧ Same σ y.2) ?_ (fun y hy => ok_some hy)
      rw [(xHog (x := nI i) (show s0 13 7 = nI (A 41) from g1.2.2.1) (by omega)).1 hv, if_neg z10, if_pos i4]
      refine ok_app ?_
      refine ok_bind (bl (P := fun k => aE σ (pu A (18 + i) k) n) (Q := fun s => Same σ s ∧ ∃ v, v < 4 ∧ RX 13 (pu A (18 + i) v) s) (i0 := 0) (n := 4) (by omega) (by omega) (by omega) (fun i hi => by omega) ⟨hs0, A (18 + i), w7.1, by rw [pu_id]; exact g1⟩ ?_ ?_) (fun e he => ?_)
      · rintro k m s _ hk ⟨hs, v, hv4, hX⟩
        unfold b_X5_fittingKinds_27
        dsimp +instances only
        refine ok_f (show ¬ nI 4 ≤ nI k from nnle hk (by omega)) ?_
        rw [if_pos i4, nI_clamp (by omega)]
        refine ok_app ?_
        have hWv := (pHogs (o := 4) (v := v) h.1 hW.1 hi (Or.inl ⟨rfl, hv4⟩)).2
        have hp := pHogs (o := 4) (q := i) (v := k) hX hWv (by rw [eB _ _ (by omega)]; exact hi) (Or.inl ⟨rfl, hk⟩)
        rw [show 4 * 4 + 2 + i = 18 + i from rfl, pu_pu, show 13 + 4 = 17 from rfl] at hp
        obtain ⟨hX2, hW2⟩ := hp
        have hs2 : Same σ (up2 s 17 i (nI k)) := hs.s13u (by omega)
        obtain ⟨⟨y, s3⟩, f1, f2, f3⟩ := x_holds (B := pu A (18 + i) k) (n := n) h hs2 hX2 hW2 hn (eB _ _ (by omega)) hn1 hS
        dsimp at f2 f3
        refine ok_be f1 (ok_app (ok_some ⟨s3, ?_, hs2.c13 f3, k, hk, (hX2.g.cr f3).rx⟩))
        have ey := aE_of f2
        rw [nI_1]
        dsimp +instances only
        by_cases z : aE σ (pu A (18 + i) k) n = true
        · rw [if_pos z] at ey
          rw [ey, if_neg z10, if_pos z]
          rfl
        · rw [if_neg z] at ey
          rw [ey, if_pos rfl, if_neg z]
      · rintro m s ⟨-, -⟩
        unfold b_X5_fittingKinds_27
        dsimp +instances only
        rw [if_pos (by decide)]
      · rw [if_pos i4, nI_clamp (by omega)]
        exact ok_some ⟨he.1, he.2.1.s13u (by omega)⟩
    · have h' := h.same hs1
      unfold f_X10_kinds
      rw [(mHog (x := nI i) h'.2.2.1 (by omega)).1 hv, if_neg z10]
      refine ok_bind (m_copies (p := 0) (q := 164) h'.2.1 (by omega) (by omega) (by omega)) (fun s0 hs0 => ?_)
      refine ok_bind (bl (P := fun k => aE σ (pu A (18 + i) k) n) (Q := fun s => Same σ s ∧ ∃ v, v < 4 ∧ RM 164 (pu A (18 + i) v) s) (i0 := 0) (n := 4) (by omega) (by omega) (by omega) (fun i hi => by omega) ⟨hs1.tr (Same.pg hs0.2), A (18 + i), w7.1, by rw [pu_id]; exact hs0.1⟩ ?_ ?_) (fun e he => ok_some ⟨he.1, he.2.1⟩)
      · rintro k m s _ hk ⟨hs, v, hv4, hM⟩
        unfold b_X10_kinds_22
        dsimp +instances only
        refine ok_f (show ¬ nI 4 ≤ nI k from nnle hk (by omega)) ?_
        rw [show (182 : Int32) + nI i = nI (164 + (18 + i)) from by rw [show (182 : Int32) = nI 182 from rfl, nI_add, show 182 + i = 164 + (18 + i) by omega], nI_clamp (by omega)]
        refine ok_in (vp_in_nI (by omega) (by omega)) (ok_app ?_)
        have hM2 := hM.pu (k := 18 + i) (v := k)
        rw [pu_pu] at hM2
        have hWB := (pHogs (o := 4) (v := k) h.1 hW.1 hi (Or.inl ⟨rfl, hk⟩)).2
        have hs2 : Same σ (up2 s 76 (164 + (18 + i)) (nI k)) := hs.p (by omega)
        obtain ⟨⟨y, s3⟩, f1, f2, f3⟩ := m_asSeen (B := pu A (18 + i) k) (n := n) h hs2 hM2 hWB hn (eB _ _ (by omega)) hn2 hS
        dsimp at f2 f3
        refine ok_be f1 (ok_app (ok_some ⟨s3, ?_, hs2.tr (Same.m f3), k, hk, hM2.fr f3⟩))
        have ey := aE_of f2
        rw [nI_1]
        dsimp +instances only
        by_cases z : aE σ (pu A (18 + i) k) n = true
        · rw [if_pos z] at ey
          rw [ey, if_neg z10, if_pos z]
        · rw [if_neg z] at ey
          rw [ey, if_pos rfl, if_neg z, or0]
      · rintro m s ⟨-, -⟩
        unfold b_X10_kinds_22
        dsimp +instances only
        rw [if_pos (by decide)]
  · refine op_0 h (r := -1) ?_ ?_
    · unfold f_X9_kinds
      rw [xh.2 hv, if_pos rfl]
    · unfold f_X10_kinds
      rw [(mHog (x := a) h.2.2.1 (by omega)).2 hv, if_pos rfl]
