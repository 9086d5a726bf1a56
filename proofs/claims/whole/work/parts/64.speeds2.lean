theorem Same.c83 {σ s : Sg} {j : Nat} {x : Int32} (h : Same σ s) : Same σ (up2 s 83 j x) := ⟨fun c hc => by rw [up2_cell _ _ _ (by omega)]; exact h.1 c hc, fun k hk => by rw [up2_cell _ _ _ (by decide)]; exact h.2.1 k hk, fun k hk => by rw [up2_cell _ _ _ (by decide)]; exact h.2.2 k hk⟩
/-- the table of ends: for speeds below k -/
def T83 (A : Pg) (i k : Nat) (s : Sg) : Prop := ∀ v, 1 ≤ v → v < k → ∀ c, c < 8 → s 83 (8 * v + c) = rI (go (gOf A) (A (18 + i)) no 10 0 c v 0).1
theorem m_spdCols {A : Pg} {s : Sg} {i k : Nat} (hW : WF A) (hi : i < A 41) (hk1 : 1 ≤ k) (hk : k < 10) (hM : RM 164 (pu A (22 + i) k) s) (hWB : WFs (pu A (22 + i) k)) (hT : T83 A i k s) (s2 : Int32 × Int32 × Sg) (h2 : s2.2.1 = nI k) :
    Ok (wh (b_X10_speedsOf_52 (nI i) s2) 4096 ((0 : Int32), s)) (fun e => Same s e.2 ∧ RM 164 (pu A (22 + i) k) e.2 ∧ T83 A i (k + 1) e.2) := by
  have w4 := hW.1.2.2.2.1
  have eB : ∀ x, x ≠ 22 + i → pu A (22 + i) k x = A x := fun x hx => pu_n _ _ hx
  have eS : pu A (22 + i) k (22 + i) = k := pu_s _ _ _
  have eg : gOf (pu A (22 + i) k) = gOf A := funext fun x => (gOf_congr (A := A) (B := pu A (22 + i) k) (fun l hl => (eB l (by omega)).symm) hW.1.1 hW.1.2.1 x).symm
  refine wh_0 (P := fun t (u : Int32 × Sg) => u.1 = nI t ∧ Same s u.2 ∧ RM 164 (pu A (22 + i) k) u.2 ∧ T83 A i k u.2 ∧ ∀ c, c < t → u.2 83 (8 * k + c) = rI (go (gOf A) (A (18 + i)) no 10 0 c k 0).1) 8 (by omega) ⟨rfl, Same.rf, hM, hT, fun c hc => by omega⟩ ?_
  rintro t ⟨x, u⟩ ht ⟨e1, hs, hR, hT, hc⟩
  dsimp at e1 hs hR hT hc
  subst e1
  unfold b_X10_speedsOf_52
  dsimp +instances only
  rw [h2]
  by_cases hlt : t < 8
  · left
    refine ⟨hlt, ok_f (show ¬ nI 8 ≤ nI t from nnle hlt (by omega)) ?_⟩
    obtain ⟨y, f1, f2⟩ := m_runs0 (p := 164) (h := i) (c := t) hR (by omega) hWB (by rw [eB _ (by omega)]; exact hi) hlt
    have f1' : f_X10_runsOn 164 (nI i) (nI t) 0 u = some y := f1
    have y16 : y 75 16 = rI (go (gOf A) (A (18 + i)) no 10 0 t k 0).1 := by
      rw [f2.2.1, eS, eB _ (by omega), eg]
    rw [f1', Option.bind_some, show (8 : Int32) * nI k + nI t = nI (8 * k + t) from by rw [show (8 : Int32) = nI 8 from rfl, pk_mul, nI_add], if_pos (inR_of (vp_in_nI (by omega) (by omega))), nI_clamp (by omega), y16]
    have y83 : y 83 = u 83 := f2.1.1 83 (by omega) (by omega)
    refine ok_some ⟨_, rfl, nI_1 _, (hs.tr (Same.m f2.1)).c83, ?_, fun v hv1 hv c' hc' => ?_, fun c' hc' => ?_⟩
    · intro l hl
      have hz : ∀ x : Int32, up2 y 83 (8 * k + t) x 76 = y 76 := fun x => up2_cell _ _ _ (by decide)
      dsimp only
      rw [hz]
      exact (hR.fr f2.1) l hl
    · dsimp only
      rw [up2_slot _ _ (by omega), y83]
      exact hT v hv1 hv c' hc'
    · dsimp only
      by_cases e : c' = t
      · subst e; rw [up2_same]
      · rw [up2_slot _ _ (by omega), y83]; exact hc c' (by omega)
  · right
    obtain rfl : t = 8 := by omega
    refine ok_t (by decide) (ok_some ⟨_, rfl, hs, hR, fun v hv1 hv c hc' => ?_⟩)
    by_cases e : v = k
    · subst e; exact hc c hc'
    · exact hT v hv1 (by omega) c hc'
theorem m_speedsOf {A : Pg} {I : Nat → Pg} {σ σ1 : Sg} {i n : Nat} (h : InvA A I σ) (hs1 : Same σ σ1) (hi : i < A 41) (hn : n ≤ 6) (hn2 : σ 75 22 = nI n)
    (hS : ∀ i, i < n → ∃ h c p, h < A 41 ∧ c < 8 ∧ p ≤ 7 ∧ σ 31 i = nI h ∧ σ 82 (3 * i) = nI h ∧ σ 32 i = nI c ∧ σ 82 (3 * i + 1) = nI c ∧ σ 33 i = (if p = 0 then 9 else nI (p - 1)) ∧ σ 82 (3 * i + 2) = rI p) :
    Ok (f_X10_speedsOf (nI i) σ1) (fun y => y.1 = nI (bm (sP σ A i n) 10) ∧ Same σ y.2 ∧ T83 A i 10 y.2) := by
  have hW := h.2.2.2.1
  have w4 := hW.1.2.2.2.1
  have w7 := hW.1.2.2.2.2.2.2.1 i hi
  have h' := h.same hs1
  have eB : ∀ k x, x ≠ 22 + i → pu A (22 + i) k x = A x := fun k x hx => pu_n _ _ hx
  unfold f_X10_speedsOf
  refine ok_bind (m_copies (p := 0) (q := 164) h'.2.1 (by omega) (by omega) (by omega)) (fun s0 hs0 => ?_)
  refine ok_bind (Q := fun e => e.1 = nI (bm (sP σ A i n) 10) ∧ Same σ e.2.2 ∧ T83 A i 10 e.2.2) ?_ (fun e he => ok_some he)
  refine wh_0 (P := fun t (e : Int32 × Int32 × Sg) => e.1 = nI (bm (sP σ A i n) (1 + t)) ∧ e.2.1 = nI (1 + t) ∧ Same σ e.2.2 ∧ T83 A i (1 + t) e.2.2 ∧ ∃ v, 1 ≤ v ∧ v ≤ 9 ∧ RM 164 (pu A (22 + i) v) e.2.2) 9 (by omega) ⟨?_, rfl, hs1.tr (Same.pg hs0.2), fun v h1 h2 => by omega, A (22 + i), w7.2.1, w7.2.2, by rw [pu_id]; exact hs0.1⟩ ?_
  · have : bm (sP σ A i n) (1 + 0) = 0 := bm_zero.mpr (fun j hj => by unfold sP; simp; omega)
    rw [this]
    rfl
  · rintro t ⟨m, x, s⟩ ht ⟨e1, e2, hs, hT, v, hv1, hv9, hM⟩
    dsimp at e1 e2 hs hT hM
    subst e1 e2
    unfold b_X10_speedsOf_12
    dsimp +instances only
    by_cases hlt : t < 9
    · left
      refine ⟨hlt, ok_f (n9 (by omega)) ?_⟩
      rw [show (186 : Int32) + nI i = nI (164 + (22 + i)) from by rw [show (186 : Int32) = nI 186 from rfl, nI_add, show 186 + i = 164 + (22 + i) by omega], nI_clamp (by omega)]
      refine ok_in (vp_in_nI (by omega) (by omega)) (ok_app ?_)
      have hM2 := hM.pu (k := 22 + i) (v := 1 + t)
      rw [pu_pu] at hM2
      have hWB := (pHogs (o := 5) (v := 1 + t) h.1 hW.1 hi (Or.inr ⟨rfl, by omega, by omega⟩)).2
      have hs2 : Same σ (up2 s 76 (164 + (22 + i)) (nI (1 + t))) := hs.p (by omega)
      obtain ⟨⟨y, s3⟩, f1, f2, f3⟩ := m_asSeen (B := pu A (22 + i) (1 + t)) (n := n) h hs2 hM2 hWB hn (eB _ _ (by omega)) hn2 hS
      dsimp at f2 f3
      refine ok_be f1 (ok_app (ok_app ?_))
      have ey := aE_of f2
      have es : sP σ A i n (1 + t) = aE σ (pu A (22 + i) (1 + t)) n := by unfold sP; simp
      have hT3 : T83 A i (1 + t) s3 := fun v a1 a2 c hc => by
        rw [f3.1 83 (by omega) (by omega), up2_cell _ _ _ (by decide)]
        exact hT v a1 a2 c hc
      dsimp +instances only
      refine ok_bind (m_spdCols hW hi (by omega) (by omega) (hM2.fr f3) hWB hT3 (nI (bm (sP σ A i n) (1 + t)), nI (1 + t), s) rfl) (fun e he => ok_some ⟨_, rfl, ?_, nI_1 _, (hs2.tr (Same.m f3)).tr he.1, he.2.2, 1 + t, by omega, by omega, he.2.1⟩)
      dsimp only
      by_cases z : aE σ (pu A (22 + i) (1 + t)) n = true
      · rw [if_pos z] at ey
        rw [ey, if_neg z10, bm_or (by omega) (by rw [es]; exact z)]
        rfl
      · rw [if_neg z] at ey
        rw [ey, if_pos rfl, or0, show 1 + (t + 1) = 1 + t + 1 from rfl, bm_no (by rw [es]; simpa using z)]
    · right
      obtain rfl : t = 9 := by omega
      exact ok_t (by decide) (ok_some ⟨_, rfl, rfl, hs, hT⟩)
theorem op_speeds {σ : Sg} (h : Inv σ) (a : Int32) : Op (f_X9_speeds a σ) (f_X10_speeds a) := by
  obtain ⟨A, I, h⟩ := h
  have hW := h.2.2.2.1
  have w4 := hW.1.2.2.2.1
  have xh := xHog (x := a) h.1.2.2.1 (by omega)
  obtain ⟨n, hn, hn1, hn2, hS⟩ := h.2.2.2.2.2.2.1
  by_cases hv : vp_in a (A 41)
  · obtain ⟨i, hi, rfl⟩ := vin_nI hv (by omega)
    refine op_q2 h (r := nI (bm (sP σ A i n) 10)) ?_ (fun σ1 hs1 => ?_)
    · obtain ⟨g1, g2⟩ := x_copyFrom (b := 13) h.1 hW.1 (by omega)
      unfold f_X9_speeds
      rw [xh.1 hv, if_neg z10]
      refine ok_app ?_
      exact ok_bind (x_fitSpeeds h (Same.rf.s13 g2) g1 hi hn hn1 hS) (fun y hy => ok_some ⟨hy.1, hy.2.1⟩)
    · have h' := h.same hs1
      unfold f_X10_speeds
      rw [(mHog (x := nI i) h'.2.2.1 (by omega)).1 hv, if_neg z10]
      exact ok_bind (m_speedsOf h hs1 hi hn hn2 hS) (fun y hy => ok_some ⟨hy.1, hy.2.1⟩)
  · refine op_0 h (r := -1) ?_ ?_
    · unfold f_X9_speeds
      rw [xh.2 hv, if_pos rfl]
    · unfold f_X10_speeds
      rw [(mHog (x := a) h.2.2.1 (by omega)).2 hv, if_pos rfl]
