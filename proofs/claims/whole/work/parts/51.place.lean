/-! place -/
/-- the reference's numbers in a search -/
theorem m_offer {p : Nat × Nat} {c v : Nat} {best num : Int32} (B : Nat → Int32) (hB : ∀ n, B (n + 1) = nI n) (h2 : best = B p.1) (h3 : num = nI p.2 - 1) (hv : v < 2 ^ 30) (hp : p.2 < 2 ^ 30) : (if nI v ≤ num then best else nI c) = B (st p c v).1 ∧ (if nI v ≤ num then num else nI v) = nI (st p c v).2 - 1 := by
  unfold st
  by_cases z : p.2 < v + 1
  · rw [h3, if_neg (fun q => (le_pred hv hp).mp q z), if_neg (fun q => (le_pred hv hp).mp q z), if_pos z]
    exact ⟨(hB c).symm, (nI_pred v).symm⟩
  · rw [h3, if_pos ((le_pred hv hp).mpr z), if_pos ((le_pred hv hp).mpr z), if_neg z]
    exact ⟨h2, rfl⟩
def b0 (v : Nat) : Int32 := if v = 0 then 0 else nI (v - 1)
theorem b0_s (n : Nat) : b0 (n + 1) = nI n := rfl
theorem isC_iff {c : Nat} (hc : c < 2 ^ 31) : isC (nI c) ↔ okc c := by
  constructor
  · rintro ⟨d, hd, e⟩
    have := hd.1
    rw [nI_eq hc (by omega)] at e
    exact e ▸ hd
  · exact fun h => ⟨c, h, rfl⟩
theorem m_seekPeg {A : Pg} {I : Nat → Pg} {σ : Sg} {r : Nat} (h : InvA A I σ) (h7 : A 38 < 7) (hr : r < 4) : Ok (wh (b_X10_place_42 (nI r)) 4096 ((-1 : Int32), (0 : Int32), (0 : Int32), σ)) (fun e => e.1 = nI (mo (fE A) (fun x => vw (pPeg A x r) (gOf (pPeg A x r)) r) 0 98).2 - 1 ∧ e.2.1 = b0 (mo (fE A) (fun x => vw (pPeg A x r) (gOf (pPeg A x r)) r) 0 98).1 ∧ Same σ e.2.2.2) := by
  have hW := h.2.2.2.1
  have w3 := hW.1.2.2.1
  have e40 : ∀ x, pPeg A x r 40 = A 40 := fun x => by unfold pPeg; rw [pu_n _ _ (by omega), pu_n _ _ (by omega), pu_n _ _ (by omega)]
  have hv : ∀ x, vw (pPeg A x r) (gOf (pPeg A x r)) r ≤ 6 := fun x => vw_le (by rw [e40]; exact w3)
  generalize hV : (fun x => vw (pPeg A x r) (gOf (pPeg A x r)) r) = V
  have hV' : ∀ x, vw (pPeg A x r) (gOf (pPeg A x r)) r = V x := fun x => by rw [← hV]
  have hv6 : ∀ x, V x ≤ 6 := fun x => by rw [← hV']; exact hv x
  refine wh_0 (P := fun k (s : Int32 × Int32 × Int32 × Sg) => s.1 = nI (mo (fE A) V 0 k).2 - 1 ∧ s.2.1 = b0 (mo (fE A) V 0 k).1 ∧ s.2.2.1 = nI k ∧ Same σ s.2.2.2) 98 (by omega) ⟨rfl, rfl, rfl, Same.rf⟩ ?_
  rintro k ⟨num, best, x, s⟩ hk ⟨e1, e2, e3, hs⟩
  dsimp at e1 e2 e3 hs
  subst e3
  unfold b_X10_place_42
  dsimp +instances only
  by_cases hlt : k < 98
  · left
    refine ⟨hlt, ok_f (show ¬ nI 98 ≤ nI k from nnle hlt (by omega)) ?_⟩
    have hI := h.same hs
    refine ok_bind (Q := fun j => j.1 = nI (mo (fE A) V 0 (k + 1)).2 - 1 ∧ j.2.1 = b0 (mo (fE A) V 0 (k + 1)).1 ∧ Same σ j.2.2) ?_ (fun j hj => ok_some ⟨_, rfl, hj.1, hj.2.1, nI_1 _, hj.2.2⟩)
    have hno : fE A k = false → Ok (some (num, best, s)) (fun j => j.1 = nI (mo (fE A) V 0 (k + 1)).2 - 1 ∧ j.2.1 = b0 (mo (fE A) V 0 (k + 1)).1 ∧ Same σ j.2.2) := fun z => by
      rw [mo_skip z]
      exact ok_some ⟨e1, e2, hs⟩
    by_cases hc : okc k
    · rw [mCell.1 ((isC_iff (by omega)).mpr hc), if_neg z10]
      have hf : f_X10_isFreeOn 0 (nI k) s = _ := m_isFreeOn (p := 0) hI.2.1 (by omega) hW.1 (by omega)
      rw [hf, Option.bind_some]
      by_cases hg : gOf A k = 0
      · rw [if_pos hg, if_neg z10]
        have hE : fE A k = true := fE_iff.mpr ⟨hc, hg⟩
        obtain ⟨s1, f1, f2, f3⟩ := m_copies (p := 0) (q := 164) hI.2.1 (by omega) (by omega) (by omega)
        obtain ⟨s2, g1, g2, g3⟩ := m_drivesOn (p := 164) (c := k) (k := r) f2 (by omega) h7
        obtain ⟨m, s3, u1, u2, u3⟩ := m_vw (p := 164) (r := r) g2 (by omega) (WF_pPeg hW h7 hg hc hr) hr
        have f1' : f_X10_copies 0 164 s = some s1 := f1
        have g1' : f_X10_drivesOn 164 (nI k) (nI r) s1 = some s2 := g1
        have u1' : f_X10_winsOn 164 (nI r) s2 = some (m, s3) := u1
        rw [f1', Option.bind_some, g1', Option.bind_some, u1', Option.bind_some, u2, Option.bind_some, hV']
        have hm := mo_le (e := fE A) (v := V) (n0 := 0) (N := 6) (by omega) hv6 k
        obtain ⟨o1, o2⟩ := m_offer (c := k) (v := V k) b0 b0_s e2 e1 (by have := hv6 k; omega) (by omega)
        simp only [app]
        rw [o1, o2]
        refine ok_some ⟨?_, ?_, ((hs.tr (Same.pg f3)).tr (Same.pg g3)).tr (Same.m u3)⟩
        · conv => rhs; unfold mo
          rw [if_pos hE]
        · conv => rhs; unfold mo
          rw [if_pos hE]
      · rw [if_neg hg, if_pos rfl]
        exact hno (by
          cases z : fE A k with
          | false => rfl
          | true => exact absurd (fE_iff.mp z).2 hg)
    · rw [mCell.2 (fun z => hc ((isC_iff (by omega)).mp z)), if_pos rfl]
      exact hno (by
        cases z : fE A k with
        | false => rfl
        | true => exact absurd (fE_iff.mp z).1 hc)
  · right
    obtain rfl : k = 98 := by omega
    exact ok_t (by decide) (ok_some ⟨_, rfl, e1, e2, hs⟩)
theorem told_at {s : Sg} {p : Nat × Nat} {a : Int32} (h2 : s 25 2 = rI p.1) (h3 : s 25 3 = nI p.2 - 1) (hp : p.1 < 2 ^ 31) : f_X0_told a s = if p.1 = 0 then -4 else if a = 0 then nI (p.1 - 1) else nI p.2 - 1 := by
  unfold f_X0_told
  rw [h2, h3]
  by_cases z : p.1 = 0
  · rw [z, if_pos rI_0, if_pos rfl]
  · rw [if_neg (fun q => z ((rI_none hp).mp q)), if_neg z]
    unfold rI
    rw [if_neg z]
theorem mHalf {x : Int32} : (vp_in x 2 → f_X10_in x.toInt64 0 1 = 1) ∧ (¬ vp_in x 2 → f_X10_in x.toInt64 0 1 = 0) := mIn0 (n := 2) (by decide)
theorem b0_pos {v : Nat} (h : v ≠ 0) : b0 v = nI (v - 1) := by unfold b0; rw [if_neg h]
theorem op_place {σ : Sg} (h : Inv σ) (a b : Int32) : Op (f_X9_place a b σ) (f_X10_place a b) := by
  obtain ⟨A, I, h⟩ := h
  have hW := h.2.2.2.1
  have w1 := hW.1.1
  have w2 := hW.1.2.1
  by_cases hv : vp_in a 4
  · by_cases hb : vp_in b 2
    · by_cases h7 : A 38 = 7
      · refine op_0 h (r := -3) ?_ ?_
        · unfold f_X9_place
          rw [xRag.1 hv, xHalf.1 hb, if_neg z10, if_neg z10, h.1.1, h7, if_neg (by decide)]
        · unfold f_X10_place
          rw [mRag.1 hv, mHalf.1 hb, if_neg z10, if_neg z10, c38', zrm h.2.1 (by omega), h7, if_pos (by decide)]
      · obtain ⟨r, hr, rfl⟩ := vin_nI hv (by omega)
        obtain ⟨x, hx, hE⟩ := free_cell (A := A) (by omega)
        have h98 : ∀ V, mo (fE A) V 0 100 = mo (fE A) V 0 98 := fun V => by
          have e8 : fE A 98 = false := by unfold fE; simp
          have e9 : fE A 99 = false := by unfold fE; simp
          rw [mo_skip e9, mo_skip e8]
        generalize hV : (fun x => vw (pPeg A x r) (gOf (pPeg A x r)) r) = V
        have hne : (mo (fE A) V 0 98).1 ≠ 0 := fun z => by
          have := (mo_none 98 z).2 x hx
          rw [this] at hE
          cases hE
        have hvV : ∀ x, V x ≤ 6 := fun x => by
          rw [← hV]
          exact vw_le (by
            have := hW.1.2.2.1
            have e40 : pPeg A x r 40 = A 40 := by unfold pPeg; rw [pu_n _ _ (by omega), pu_n _ _ (by omega), pu_n _ _ (by omega)]
            omega)
        have hm := mo_le (e := fE A) (v := V) (n0 := 0) (N := 6) (by omega) hvV 98
        refine op_q h (r := if b = 0 then nI ((mo (fE A) V 0 98).1 - 1) else nI (mo (fE A) V 0 98).2 - 1) ?_ (fun σ1 h' => ?_)
        · obtain ⟨g1, g2⟩ := x_copyFrom (b := 13) h.1 hW.1 (by omega)
          unfold f_X9_place
          rw [xRag.1 hv, xHalf.1 hb, if_neg z10, if_neg z10, h.1.1]
          refine ok_t (show nI (A 38) < nI 7 from nI_lt (by omega) (by omega)) (ok_app ?_)
          refine ok_bind (x_seekPeg g1 hW (by omega) hr) (fun y hy => ok_some ⟨?_, (Same.rf.s13 g2).tr hy.1⟩)
          rw [hV, h98] at hy
          dsimp only
          rw [told_at hy.2.2.1 hy.2.2.2 (by omega), if_neg hne]
        · unfold f_X10_place
          rw [mRag.1 hv, mHalf.1 hb, if_neg z10, if_neg z10, c38', zrm h'.2.1 (by omega), if_neg (show ¬ nI (A 38) = 7 from nne (b := 7) h7 (by omega) (by omega))]
          refine ok_bind (m_seekPeg h' (by omega) hr) (fun e he => ?_)
          rw [hV] at he
          obtain ⟨q1, q2, q3⟩ := he
          by_cases z : b = 0
          · rw [if_pos z, if_pos z]
            exact ok_some ⟨by dsimp only; rw [q2, b0_pos hne], q3⟩
          · rw [if_neg z, if_neg z]
            exact ok_some ⟨q1, q3⟩
    · refine op_0 h (r := -1) ?_ ?_
      · unfold f_X9_place
        rw [xRag.1 hv, xHalf.2 hb, if_neg z10, if_pos rfl]
      · unfold f_X10_place
        rw [mRag.1 hv, mHalf.2 hb, if_neg z10, if_pos rfl]
  · refine op_0 h (r := -1) ?_ ?_
    · unfold f_X9_place
      rw [xRag.2 hv, if_pos rfl]
    · unfold f_X10_place
      rw [mRag.2 hv, if_pos rfl]
