theorem sw_le {A : Pg} {r w0 : Nat} (hW : WF A) (hw0 : w0 ≤ 6) : ∀ k, k ≤ A 41 → (swO (fun i j => vw (pxc A i j) (gOf A) r) (A 41) (0, w0 + 1) k).2 ≤ 7 ∧ (swO (fun i j => vw (pxc A i j) (gOf A) r) (A 41) (0, w0 + 1) k).1 ≤ 1000 := by
  have w4 := hW.1.2.2.2.1
  have w3 := hW.1.2.2.1
  intro k
  induction k with
  | zero => exact fun _ => ⟨by show w0 + 1 ≤ 7; omega, by show (0 : Nat) ≤ 1000; omega⟩
  | succ k ihk =>
    intro hk
    obtain ⟨hl1, hl2⟩ := ihk (by omega)
    have hb : ∀ t, t ≤ A 41 - (k + 1) → (swI (fun i j => vw (pxc A i j) (gOf A) r) k (swO (fun i j => vw (pxc A i j) (gOf A) r) (A 41) (0, w0 + 1) k) t).2 ≤ 7 ∧ (swI (fun i j => vw (pxc A i j) (gOf A) r) k (swO (fun i j => vw (pxc A i j) (gOf A) r) (A 41) (0, w0 + 1) k) t).1 ≤ 1000 := by
      intro t
      induction t with
      | zero => exact fun _ => ⟨hl1, hl2⟩
      | succ t ih =>
        intro ht
        have h1 := ih (by omega)
        have hv : vw (pxc A k (k + 1 + t)) (gOf A) r ≤ 6 := vw_le (by rw [pxc_o (by omega) (by omega) (by omega)]; exact w3)
        unfold swI st
        split
        · exact ⟨by dsimp only; omega, by dsimp only; omega⟩
        · exact h1
    exact hb _ (Nat.le_refl _)
theorem m_seekPair {A : Pg} {I : Nat → Pg} {σ s0 : Sg} {r w0 : Nat} (h : InvA A I σ) (hr : r < 4) (hw0 : w0 ≤ 6) (hs0 : Same σ s0) : Ok (wh (b_X10_swap_36 (nI r)) 4096 (nI w0, (-4 : Int32), (0 : Int32), s0)) (fun e => e.1 = nI (swO (fun i j => vw (pxc A i j) (gOf A) r) (A 41) (0, w0 + 1) (A 41)).2 - 1 ∧ e.2.1 = rI (swO (fun i j => vw (pxc A i j) (gOf A) r) (A 41) (0, w0 + 1) (A 41)).1 ∧ Same σ e.2.2.2) := by
  have hW := h.2.2.2.1
  have w4 := hW.1.2.2.2.1
  refine wh_0 (P := fun k (s : Int32 × Int32 × Int32 × Sg) => s.1 = nI (swO (fun i j => vw (pxc A i j) (gOf A) r) (A 41) (0, w0 + 1) k).2 - 1 ∧ s.2.1 = rI (swO (fun i j => vw (pxc A i j) (gOf A) r) (A 41) (0, w0 + 1) k).1 ∧ s.2.2.1 = nI k ∧ Same σ s.2.2.2) (A 41) (by omega) ⟨(nI_pred w0).symm, rfl, rfl, hs0⟩ ?_
  rintro k ⟨num, best, x, s⟩ hk ⟨e1, e2, e3, hs⟩
  dsimp at e1 e2 e3 hs
  subst e3
  have hI := h.same hs
  unfold b_X10_swap_36
  dsimp +instances only
  rw [hI.2.2.1]
  by_cases hlt : k < A 41
  · left
    refine ⟨hlt, ok_f (nnle hlt (by omega)) ?_⟩
    refine ok_bind (m_swI h hr hlt (sw_le hW hw0 k (by omega)).1 hs e1 e2 (num, best, nI k, s) rfl) (fun e he => ok_some ⟨_, rfl, he.1, he.2.1, nI_1 _, he.2.2⟩)
  · right
    obtain rfl : k = A 41 := by omega
    exact ok_t (nle (Nat.le_refl _) (by omega)) (ok_some ⟨_, rfl, e1, e2, hs⟩)
theorem op_swap {σ : Sg} (h : Inv σ) (a b : Int32) : Op (f_X9_swap a b σ) (f_X10_swap a b) := by
  obtain ⟨A, I, h⟩ := h
  have hW := h.2.2.2.1
  have w1 := hW.1.1
  have w3 := hW.1.2.2.1
  by_cases hv : vp_in a 4
  · by_cases hb : vp_in b 2
    · obtain ⟨r, hr, rfl⟩ := vin_nI hv (by omega)
      have hw6 : vw A (gOf A) r ≤ 6 := vw_le w3
      have hm := sw_le (r := r) hW hw6 (A 41) (Nat.le_refl _)
      generalize hp : swO (fun i j => vw (pxc A i j) (gOf A) r) (A 41) (0, vw A (gOf A) r + 1) (A 41) = p at hm
      refine op_q h (r := if p.1 = 0 then -4 else if b = 0 then nI (p.1 - 1) else nI p.2 - 1) ?_ (fun σ1 h' => ?_)
      · obtain ⟨g1, g2⟩ := x_copyFrom (b := 13) h.1 hW.1 (by omega)
        unfold f_X9_swap
        rw [xRag.1 hv, xHalf.1 hb, if_neg z10, if_neg z10]
        refine ok_app ?_
        refine ok_bind (x_seekPair g1 hW hr) (fun y hy => ok_some ⟨?_, (Same.rf.s13 g2).tr hy.1⟩)
        rw [hp] at hy
        dsimp only
        rw [told_at hy.2.2.1 hy.2.2.2 (by omega)]
      · unfold f_X10_swap
        rw [mRag.1 hv, mHalf.1 hb, if_neg z10, if_neg z10]
        obtain ⟨m, s0, f1, f2, f3⟩ := m_vw (p := 0) (r := r) h'.2.1 (by omega) hW hr
        have f1' : f_X10_winsOn 0 (nI r) σ1 = some (m, s0) := f1
        rw [f1', Option.bind_some]
        dsimp +instances only
        rw [f2, Option.bind_some]
        refine ok_bind (m_seekPair h' hr hw6 (Same.m f3)) (fun e he => ?_)
        rw [hp] at he
        obtain ⟨q1, q2, q3⟩ := he
        rw [q1, q2]
        by_cases z0 : p.1 = 0
        · rw [z0, if_pos rI_0, if_pos rfl]
          exact ok_some ⟨rfl, q3⟩
        · rw [if_neg (fun q => z0 ((rI_none (by omega)).mp q)), if_neg z0]
          by_cases z : b = 0
          · rw [if_pos z, if_pos z]
            refine ok_some ⟨?_, q3⟩
            dsimp only
            unfold rI
            rw [if_neg z0]
          · rw [if_neg z, if_neg z]
            exact ok_some ⟨rfl, q3⟩
    · refine op_0 h (r := -1) ?_ ?_
      · unfold f_X9_swap
        rw [xRag.1 hv, xHalf.2 hb, if_neg z10, if_pos rfl]
      · unfold f_X10_swap
        rw [mRag.1 hv, mHalf.2 hb, if_neg z10, if_pos rfl]
  · refine op_0 h (r := -1) ?_ ?_
    · unfold f_X9_swap
      rw [xRag.2 hv, if_pos rfl]
    · unfold f_X10_swap
      rw [mRag.2 hv, if_pos rfl]
