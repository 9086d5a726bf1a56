theorem gOf_pxc {A : Pg} {i j : Nat} (hW : WFs A) (hi : i < 4) (hj : j < 4) : gOf (pxc A i j) = gOf A := funext fun x => (gOf_congr (A := A) (B := pxc A i j) (fun k hk => (pxc_o hi hj (by omega)).symm) hW.1 hW.2.1 x).symm
theorem x_swI {A : Pg} {σ s0 : Sg} {r i : Nat} {p : Nat × Nat} (hW : WF A) (hr : r < 4) (hi : i < A 41) (hp : p.2 ≤ 7 ∧ p.1 ≤ 1000) (hA0 : Adv A σ p s0) (s3 : Int32 × Sg) (h3i : s3.1 = nI i) : Ok (wh (b_X0_seekPair_32 (nI r) s3) 4096 ((nI i + (1 : Int32)), s0)) (fun e => Adv A σ (swI (fun i j => vw (pxc A i j) (gOf A) r) i p (A 41 - (i + 1))) e.2) := by
  have w4 := hW.1.2.2.2.1
  have w3 := hW.1.2.2.1
  have w1 := hW.1.1
  have w2 := hW.1.2.1
  have hv6' : ∀ i j, i < 4 → j < 4 → vw (pxc A i j) (gOf A) r ≤ 6 := fun i j hi hj => vw_le (by rw [pxc_o hi hj (by omega)]; exact w3)
  rw [nI_1]
  refine wh_0 (P := fun t (s : Int32 × Sg) => s.1 = nI (i + 1 + t) ∧ Adv A σ (swI (fun i j => vw (pxc A i j) (gOf A) r) i p t) s.2 ∧ (swI (fun i j => vw (pxc A i j) (gOf A) r) i p t).2 ≤ 7) (A 41 - (i + 1)) (by omega) ⟨rfl, hA0, hp.1⟩ ?_
  rintro t ⟨x, s⟩ ht ⟨e1, hA, hle⟩
  dsimp at e1 hA
  subst e1
  unfold b_X0_seekPair_32
  dsimp +instances only
  obtain ⟨hs, hX, h2, h3⟩ := hA
  rw [hX.2.2.1, h3i]
  by_cases hlt : t < A 41 - (i + 1)
  · left
    refine ⟨hlt, ok_f (nnle (by omega) (by omega)) ?_⟩
    obtain ⟨s1, g1, g2, g3⟩ := x_exchange (i := i) (j := i + 1 + t) hX.g w4 w1 w2 w3 hi (by omega) (by omega)
    have hWB := WF_pxc (i := i) (j := i + 1 + t) hW hi (by omega) (by omega)
    have e38 : pxc A i (i + 1 + t) 38 = A 38 := pxc_o (by omega) (by omega) (by omega)
    obtain ⟨m, s2, u1, u2, u3⟩ := x_vw (r := r) g2 hWB (fun x => by rw [e38]; exact gOf_lt) hr
    rw [g1, Option.bind_some, u1, Option.bind_some]
    refine ok_app ?_
    have hv := hv6' i (i + 1 + t) (by omega) (by omega)
    dsimp only
    rw [u2, show (10 : Int32) * nI i + nI (i + 1 + t) = nI (10 * i + (i + 1 + t)) from by rw [show (10 : Int32) = nI 10 from rfl, pk_mul, nI_add]]
    have k25 : s2 25 = s 25 := by rw [u3 25 (by unfold crt; omega), g3 25 (by unfold slp; omega)]
    obtain ⟨o1, o2, o3⟩ := x_offer (s := s2) (p := swI (fun i j => vw (pxc A i j) (gOf A) r) i p t) (c := 10 * i + (i + 1 + t)) (v := vw (pxc A i (i + 1 + t)) (gOf A) r) (by rw [k25]; exact h2) (by rw [k25]; exact h3) (by omega) (by omega)
    have hX2 : RXg 13 (pxc A i (i + 1 + t)) (gOf A) (f_X0_offerMost (nI (10 * i + (i + 1 + t))) (nI (vw (pxc A i (i + 1 + t)) (gOf A) r)) s2) := (g2.cr u3).keep (fun l hl => o3 _ (by omega))
    have e41 : pxc A i (i + 1 + t) 41 = A 41 := pxc_o (by omega) (by omega) (by omega)
    obtain ⟨s4, v1, v2, v3⟩ := x_exchange (i := i) (j := i + 1 + t) hX2 hWB.1.2.2.2.1 hWB.1.1 hWB.1.2.1 hWB.1.2.2.1 (by omega) (by omega) (by omega)
    rw [pxc_pxc (by omega) (by omega) (by omega)] at v2
    rw [v1]
    refine ok_some ⟨_, rfl, nI_1 _, ⟨(((hs.s13 g3).c13 u3).a25 o3).s13 v3, v2, ?_, ?_⟩, ?_⟩
    · dsimp only
      rw [v3 25 (by unfold slp; omega), o1]
      rfl
    · dsimp only
      rw [v3 25 (by unfold slp; omega), o2]
      rfl
    · show (st _ _ _).2 ≤ 7
      unfold st
      dsimp only
      split
      · dsimp only; omega
      · exact hle
  · right
    have e : t = A 41 - (i + 1) := by omega
    refine ok_t (nle (by omega) (by omega)) (ok_some ⟨_, rfl, ?_⟩)
    rw [← e]
    exact ⟨hs, hX, h2, h3⟩
theorem x_seekPair {A : Pg} {σ : Sg} {r : Nat} (h : RX 13 A σ) (hW : WF A) (hr : r < 4) : Ok (f_X0_seekPair (nI r) σ) (Adv A σ (swO (fun i j => vw (pxc A i j) (gOf A) r) (A 41) (0, vw A (gOf A) r + 1) (A 41))) := by
  have w4 := hW.1.2.2.2.1
  have w3 := hW.1.2.2.1
  generalize hw0 : vw A (gOf A) r = w0
  have hw6 : w0 ≤ 6 := by rw [← hw0]; exact vw_le w3
  unfold f_X0_seekPair
  obtain ⟨m, σ0, f1, f2, f3⟩ := x_vw (r := r) h.g hW gOf_lt2 hr
  rw [f1, Option.bind_some]
  dsimp +instances only
  rw [f2, hw0]
  refine ok_app ?_
  have hA0 : Adv A σ (0, w0 + 1) (f_X0_seekFrom (nI w0) σ0) := by
    unfold f_X0_seekFrom
    simp only [app]
    have hF : Fr (fun q => q = 25) σ0 (up2 (up2 σ0 25 2 (-4)) 25 3 (nI w0)) := up25
    refine ⟨(Same.rf.c13 f3).a25 hF, (h.g.cr f3).rx.fr hF (fun k hk => by omega), by simp [up2]; rfl, ?_⟩
    rw [up2_same]
    exact (nI_pred w0).symm
  generalize f_X0_seekFrom (nI w0) σ0 = σ1 at hA0
  refine ok_bind (Q := fun e => Adv A σ (swO (fun i j => vw (pxc A i j) (gOf A) r) (A 41) (0, w0 + 1) (A 41)) e.2) ?_ (fun e he => ok_some he)
  refine wh_0 (P := fun k (s : Int32 × Sg) => s.1 = nI k ∧ Adv A σ (swO (fun i j => vw (pxc A i j) (gOf A) r) (A 41) (0, w0 + 1) k) s.2 ∧ (swO (fun i j => vw (pxc A i j) (gOf A) r) (A 41) (0, w0 + 1) k).2 ≤ 7 ∧ (swO (fun i j => vw (pxc A i j) (gOf A) r) (A 41) (0, w0 + 1) k).1 ≤ 1000) (A 41) (by omega) ⟨rfl, hA0, by show w0 + 1 ≤ 7; omega, by show (0 : Nat) ≤ 1000; omega⟩ ?_
  rintro k ⟨x, s⟩ hk ⟨e1, hA, hl1, hl2⟩
  dsimp at e1 hA
  subst e1
  unfold b_X0_seekPair_17
  dsimp +instances only
  rw [hA.2.1.2.2.1]
  by_cases hlt : k < A 41
  · left
    refine ⟨hlt, ok_f (nnle hlt (by omega)) ?_⟩
    refine ok_bind (x_swI hW hr hlt ⟨hl1, hl2⟩ hA (nI k, s) rfl) (fun e he => ok_some ⟨_, rfl, nI_1 _, he, ?_⟩)
    have hb : ∀ t, t ≤ A 41 - (k + 1) → (swI (fun i j => vw (pxc A i j) (gOf A) r) k (swO (fun i j => vw (pxc A i j) (gOf A) r) (A 41) (0, w0 + 1) k) t).2 ≤ 7 ∧ (swI (fun i j => vw (pxc A i j) (gOf A) r) k (swO (fun i j => vw (pxc A i j) (gOf A) r) (A 41) (0, w0 + 1) k) t).1 ≤ 1000 := by
      intro t
      induction t with
      | zero => exact fun _ => ⟨hl1, hl2⟩
      | succ t ih =>
        intro ht
        have h1 := ih (by omega)
        have hv : vw (pxc A k (k + 1 + t)) (gOf A) r ≤ 6 := vw_le (by rw [pxc_o (by omega) (by omega) (by omega)]; exact w3)
        unfold swI st
        split
        · exact ⟨by dsimp only; omega, by dsimp only; omega⟩
        · exact h1
    exact hb _ (Nat.le_refl _)
  · right
    obtain rfl : k = A 41 := by omega
    exact ok_t (nle (Nat.le_refl _) (by omega)) (ok_some ⟨_, rfl, hA⟩)
