def sP (σ : Sg) (A : Pg) (i n k : Nat) : Bool := decide (1 ≤ k) && aE σ (pu A (22 + i) k) n
theorem x_fitSpeeds {A : Pg} {I : Nat → Pg} {σ s0 : Sg} {i n : Nat} (h : InvA A I σ) (hs0 : Same σ s0) (g1 : RX 13 A s0) (hi : i < A 41) (hn : n ≤ 6) (hn1 : σ 30 3 = nI n)
    (hS : ∀ i, i < n → ∃ h c p, h < A 41 ∧ c < 8 ∧ p ≤ 7 ∧ σ 31 i = nI h ∧ σ 82 (3 * i) = nI h ∧ σ 32 i = nI c ∧ σ 82 (3 * i + 1) = nI c ∧ σ 33 i = (if p = 0 then 9 else nI (p - 1)) ∧ σ 82 (3 * i + 2) = rI p) :
    Ok (f_X5_fittingSpeeds 13 (nI i) s0) (fun y => y.1 = nI (bm (sP σ A i n) 10) ∧ Same σ y.2 ∧ RX 13 A y.2) := by
  have hW := h.2.2.2.1
  have w4 := hW.1.2.2.2.1
  have i4 : inR (nI i) 4 = true := inR_of (vp_in_nI (by omega) (by omega))
  have w7 := hW.1.2.2.2.2.2.2.1 i hi
  have eB : ∀ k x, x ≠ 22 + i → pu A (22 + i) k x = A x := fun k x hx => pu_n _ _ hx
  unfold f_X5_fittingSpeeds
  refine ok_bind (Q := fun y => y.1 = nI (bm (sP σ A i n) 10) ∧ Same σ y.2 ∧ RX 13 A y.2) ?_ (fun y hy => ok_some hy)
  rw [(xHog (x := nI i) (show s0 13 7 = nI (A 41) from g1.2.2.1) (by omega)).1 (vp_in_nI hi (by omega)), if_neg z10, if_pos i4]
  refine ok_app ?_
  have hrec : ∀ v s, 1 ≤ v → v ≤ 9 → RX 13 (pu A (22 + i) v) s → ∀ k, 1 ≤ k → k ≤ 9 → RX 13 (pu A (22 + i) k) (up2 s 18 i (nI k)) ∧ WFs (pu A (22 + i) k) := fun v s hv1 hv9 hX k hk1 hk9 => by
    have hWv := (pHogs (o := 5) (v := v) h.1 hW.1 hi (Or.inr ⟨rfl, hv1, hv9⟩)).2
    have hp := pHogs (o := 5) (q := i) (v := k) hX hWv (by rw [eB _ _ (by omega)]; exact hi) (Or.inr ⟨rfl, hk1, hk9⟩)
    rw [show 4 * 5 + 2 + i = 22 + i from rfl, pu_pu, show 13 + 5 = 18 from rfl] at hp
    exact hp
  rw [nI_clamp (by omega), show s0 (13 + 5) i = nI (A (22 + i)) from (g1.2.2.2.2.2.2.1 i hi).2]
  refine ok_bind (bl (P := sP σ A i n) (Q := fun s => Same σ s ∧ ∃ v, 1 ≤ v ∧ v ≤ 9 ∧ RX 13 (pu A (22 + i) v) s) (i0 := 1) (n := 10) (by omega) (by omega) (by omega) (fun j hj => by unfold sP; simp; omega) ⟨hs0, A (22 + i), w7.2.1, w7.2.2, by rw [pu_id]; exact g1⟩ ?_ ?_) (fun e he => ?_)
  · rintro k m s hk1 hk ⟨hs, v, hv1, hv9, hX⟩
    unfold b_X5_fittingSpeeds_27
    dsimp +instances only
    refine ok_f (n9 (by omega)) ?_
    rw [if_pos i4, nI_clamp (by omega)]
    refine ok_app ?_
    obtain ⟨hX2, hW2⟩ := hrec v s hv1 hv9 hX k hk1 (by omega)
    have hs2 : Same σ (up2 s 18 i (nI k)) := hs.s13u (by omega)
    obtain ⟨⟨y, s3⟩, f1, f2, f3⟩ := x_holds (B := pu A (22 + i) k) (n := n) h hs2 hX2 hW2 hn (eB _ _ (by omega)) hn1 hS
    dsimp at f2 f3
    refine ok_be f1 (ok_app (ok_some ⟨s3, ?_, hs2.c13 f3, k, hk1, by omega, (hX2.g.cr f3).rx⟩))
    have ey := aE_of f2
    have es : sP σ A i n k = aE σ (pu A (22 + i) k) n := by unfold sP; simp [hk1]
    rw [nI_1, es]
    dsimp +instances only
    by_cases z : aE σ (pu A (22 + i) k) n = true
    · rw [if_pos z] at ey
      rw [ey, if_neg z10, if_pos z]
      rfl
    · rw [if_neg z] at ey
      rw [ey, if_pos rfl, if_neg z]
  · rintro m s ⟨-, -⟩
    unfold b_X5_fittingSpeeds_27
    dsimp +instances only
    rw [if_pos (by decide)]
  · rw [if_pos i4]
    obtain ⟨q1, q2, v, hv1, hv9, hX⟩ := he
    have := (hrec v e.2.2 hv1 hv9 hX (A (22 + i)) w7.2.1 w7.2.2).1
    rw [pu_id] at this
    refine ok_some ⟨q1, q2.s13u (by omega), ?_⟩
    exact this
