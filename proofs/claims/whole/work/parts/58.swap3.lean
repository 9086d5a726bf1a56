theorem m_swT {A : Pg} {s0 : Sg} {i j : Nat} (hM : RM 0 A s0) (hM1 : RM 164 A s0) (hW : WF A) (hi : i < A 41) (hj : j < A 41) (s5 s7 : Int32 × Int32 × Int32 × Sg) (h5 : s5.2.2.1 = nI i) (h7 : s7.2.2.1 = nI j) : Ok (wh (b_X10_swap_71 s5 s7) 4096 ((0 : Int32), s0)) (fun e => RM 164 (swT A i j (A 40)) e.2 ∧ Agr (Pgp 164) s0 e.2) := by
  have w3 := hW.1.2.2.1
  have w4 := hW.1.2.2.2.1
  refine wh_0 (P := fun t (s : Int32 × Sg) => s.1 = nI t ∧ RM 164 (swT A i j t) s.2 ∧ Agr (Pgp 164) s0 s.2) (A 40) (by omega) ⟨rfl, ?_, Agr.rf⟩ ?_
  · intro k hk
    rw [swT_o (by omega)]
    exact hM1 k hk
  · rintro t ⟨x, s⟩ ht ⟨e1, hR, ha⟩
    dsimp at e1 hR ha
    subst e1
    have hM' : RM 0 A s := hM.ag ha (fun j z => by unfold Pgp at z; omega)
    unfold b_X10_swap_71
    dsimp +instances only
    rw [c40, zrm hM' (by omega), h5, h7]
    by_cases hlt : t < A 40
    · left
      have hw := hW.2 t hlt
      refine ⟨hlt, ok_f (nnle hlt (by omega)) ?_⟩
      rw [show (26 : Int32) + nI t = nI (26 + t) from nI_add 26 t, show (190 : Int32) + nI t = nI (164 + (26 + t)) from by rw [show (190 : Int32) = nI 190 from rfl, nI_add, show 190 + t = 164 + (26 + t) by omega]]
      refine ok_in (vp_in_nI (by omega) (by omega)) ?_
      rw [nI_clamp (by omega), zrm hM' (by omega)]
      refine ok_app (ok_app (ok_in (vp_in_nI (by omega) (by omega)) ?_))
      rw [nI_clamp (by omega)]
      have ev : (if nI (A (26 + t)) = nI i then nI j else if nI (A (26 + t)) = nI j then nI i else nI (A (26 + t))) = nI (tr i j (A (26 + t))) := by
        unfold tr
        by_cases z1 : A (26 + t) = i
        · rw [if_pos (by rw [z1]), if_pos z1]
        · rw [if_neg (fun q => z1 ((nI_eq (by omega) (by omega)).mp q)), if_neg z1]
          by_cases z2 : A (26 + t) = j
          · rw [if_pos (by rw [z2]), if_pos z2]
          · rw [if_neg (fun q => z2 ((nI_eq (by omega) (by omega)).mp q)), if_neg z2]
      rw [ev]
      refine ok_some ⟨_, rfl, nI_1 _, fun k hk => ?_, ha.up (by unfold Pgp; omega)⟩
      dsimp only
      by_cases k1 : k = 26 + t
      · subst k1
        rw [up2_same, swT_w (by omega)]
      · rw [up2_slot _ _ (by omega), hR k hk]
        unfold swT
        by_cases z : 26 ≤ k ∧ k < 26 + t
        · rw [if_pos z, if_pos (by omega)]
        · rw [if_neg z, if_neg (by omega)]
    · right
      obtain rfl : t = A 40 := by omega
      exact ok_t (nle (Nat.le_refl _) (by omega)) (ok_some ⟨_, rfl, hR, ha⟩)
theorem m_swI {A : Pg} {I : Nat → Pg} {σ s0 : Sg} {r i : Nat} {p : Nat × Nat} {num best : Int32} (h : InvA A I σ) (hr : r < 4) (hi : i < A 41) (hp : p.2 ≤ 7) (hs0 : Same σ s0) (e1 : num = nI p.2 - 1) (e2 : best = rI p.1) (s5 : Int32 × Int32 × Int32 × Sg) (h5 : s5.2.2.1 = nI i) : Ok (wh (b_X10_swap_51 (nI r) s5) 4096 (num, best, nI i + (1 : Int32), s0)) (fun e => e.1 = nI (swI (fun i j => vw (pxc A i j) (gOf A) r) i p (A 41 - (i + 1))).2 - 1 ∧ e.2.1 = rI (swI (fun i j => vw (pxc A i j) (gOf A) r) i p (A 41 - (i + 1))).1 ∧ Same σ e.2.2.2) := by
  have hW := h.2.2.2.1
  have w4 := hW.1.2.2.2.1
  have w3 := hW.1.2.2.1
  rw [nI_1]
  refine wh_0 (P := fun t (s : Int32 × Int32 × Int32 × Sg) => s.1 = nI (swI (fun i j => vw (pxc A i j) (gOf A) r) i p t).2 - 1 ∧ s.2.1 = rI (swI (fun i j => vw (pxc A i j) (gOf A) r) i p t).1 ∧ s.2.2.1 = nI (i + 1 + t) ∧ Same σ s.2.2.2 ∧ (swI (fun i j => vw (pxc A i j) (gOf A) r) i p t).2 ≤ 7) (A 41 - (i + 1)) (by omega) ⟨e1, e2, rfl, hs0, hp⟩ ?_
  rintro t ⟨num, best, x, s⟩ ht ⟨e1, e2, e3, hs, hle⟩
  dsimp at e1 e2 e3 hs
  subst e3
  have hI := h.same hs
  unfold b_X10_swap_51
  dsimp +instances only
  rw [hI.2.2.1]
  by_cases hlt : t < A 41 - (i + 1)
  · left
    refine ⟨hlt, ok_f (nnle (by omega) (by omega)) ?_⟩
    obtain ⟨s1, f1, f2, f3⟩ := m_copies (p := 0) (q := 164) hI.2.1 (by omega) (by omega) (by omega)
    have f1' : f_X10_copies 0 164 s = some s1 := f1
    have hM1 : RM 0 A s1 := hI.2.1.ag f3 (fun j z => by unfold Pgp at z; omega)
    obtain ⟨⟨x', s2⟩, g1, g2, g3⟩ := m_swT (i := i) (j := i + 1 + t) hM1 f2 hW hi (by omega) s5 (num, best, nI (i + 1 + t), s) h5 rfl
    dsimp at g2 g3
    obtain ⟨m, s3, u1, u2, u3⟩ := m_vw (p := 164) (r := r) g2 (by omega) (WF_swT hW hi (by omega)) hr
    have u1' : f_X10_winsOn 164 (nI r) s2 = some (m, s3) := u1
    rw [vw_swap hW hi (by omega) (by omega)] at u2
    have hv : vw (pxc A i (i + 1 + t)) (gOf A) r ≤ 6 := vw_le (by rw [pxc_o (by omega) (by omega) (by omega)]; exact w3)
    rw [f1', Option.bind_some, g1, Option.bind_some]
    dsimp +instances only
    rw [u1', Option.bind_some, u2, Option.bind_some, h5, show (10 : Int32) * nI i + nI (i + 1 + t) = nI (10 * i + (i + 1 + t)) from by rw [show (10 : Int32) = nI 10 from rfl, pk_mul, nI_add]]
    obtain ⟨o1, o2⟩ := m_offer (c := 10 * i + (i + 1 + t)) (v := vw (pxc A i (i + 1 + t)) (gOf A) r) rI rI_s e2 e1 (by omega) (by omega)
    simp only [app]
    rw [o1, o2]
    refine ok_some ⟨_, rfl, rfl, rfl, nI_1 _, ((hs.tr (Same.pg f3)).tr (Same.pg g3)).tr (Same.m u3), ?_⟩
    show (st _ _ _).2 ≤ 7
    unfold st
    dsimp only
    split
    · dsimp only; omega
    · exact hle
  · right
    have e : t = A 41 - (i + 1) := by omega
    refine ok_t (nle (by omega) (by omega)) (ok_some ⟨_, rfl, ?_⟩)
    rw [← e]
    exact ⟨e1, e2, hs⟩
