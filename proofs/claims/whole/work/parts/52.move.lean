/-! move -/
/-- a cell in which peg i may lie -/
def mE (A : Pg) (i x : Nat) : Bool := fE A x || decide (x = A i)
theorem mE_iff {A : Pg} {i x : Nat} (hW : WFs A) (hi : i < A 38) : mE A i x = true ↔ okc x ∧ (gOf A x = 0 ∨ A i = x) := by
  have hc := (hW.2.2.2.2.1 i hi).1
  unfold mE
  rw [Bool.or_eq_true, fE_iff, decide_eq_true_eq]
  constructor
  · rintro (⟨h1, h2⟩ | h)
    · exact ⟨h1, Or.inl h2⟩
    · rw [h]; exact ⟨hc, Or.inr rfl⟩
  · rintro ⟨h1, h2 | h2⟩
    · exact Or.inl ⟨h1, h2⟩
    · exact Or.inr h2.symm
theorem mvP_back (A : Pg) (i x : Nat) : mvP (mvP A i x) i (A i) = A := by
  unfold mvP
  rw [pu_pu, pu_id]
theorem WF_mvP {A : Pg} {i c : Nat} (hW : WF A) (hi : i < A 38) (hc : okc c) (hf : gOf A c = 0 ∨ A i = c) : WF (mvP A i c) := by
  have w1 := hW.1.1
  have eo : ∀ k, k ≠ i → mvP A i c k = A k := fun k hk => pu_n _ _ hk
  refine ⟨WFs_mvP hW.1 hi hc hf, fun j hj => ?_⟩
  rw [eo _ (by omega)] at hj
  rw [eo _ (by omega), eo _ (by omega)]
  exact hW.2 j hj
theorem x_seekCell {A : Pg} {σ : Sg} {i : Nat} (h : RX 13 A σ) (hW : WF A) (hi : i < A 38) : Ok (f_X0_seekCellOf (nI i) σ) (Adv A σ (mo (mE A i) (fun x => vw (mvP A i x) (gOf (mvP A i x)) (A (7 + i))) 0 100)) := by
  have w1 := hW.1.1
  have w3 := hW.1.2.2.1
  have w5 := hW.1.2.2.2.2.1 i hi
  have e40 : ∀ x, mvP A i x 40 = A 40 := fun x => pu_n _ _ (by omega)
  have hv : ∀ x, vw (mvP A i x) (gOf (mvP A i x)) (A (7 + i)) ≤ 6 := fun x => vw_le (by rw [e40]; exact w3)
  generalize hV : (fun x => vw (mvP A i x) (gOf (mvP A i x)) (A (7 + i))) = V
  have hV' : ∀ x, vw (mvP A i x) (gOf (mvP A i x)) (A (7 + i)) = V x := fun x => by rw [← hV]
  have hv6 : ∀ x, V x ≤ 6 := fun x => by rw [← hV']; exact hv x
  unfold f_X0_seekCellOf
  refine ok_app ?_
  have hA0 : Adv A σ (0, 0) (f_X0_seekFrom (-1) σ) := by
    unfold f_X0_seekFrom
    simp only [app]
    have hF : Fr (fun q => q = 25) σ (up2 (up2 σ 25 2 (-4)) 25 3 (-1)) := up25
    exact ⟨Same.rf.a25 hF, h.fr hF (fun k hk => by omega), by simp [up2]; rfl, by simp [up2]; rfl⟩
  generalize f_X0_seekFrom (-1) σ = σ1 at hA0
  refine ok_f (by rw [(xPeg (x := nI i) hA0.2.1.1 (by omega)).1 (vp_in_nI hi (by omega))]; decide) (ok_in (vp_in_nI (by omega) (by omega)) (ok_in (vp_in_nI (by omega) (by omega)) (ok_app (ok_app ?_))))
  rw [nI_clamp (by omega), show σ1 14 i = nI (A i) from (hA0.2.1.2.2.2.2.1 i hi).1, show σ1 15 i = nI (A (7 + i)) from (hA0.2.1.2.2.2.2.1 i hi).2]
  refine ok_bind (Q := fun e => Adv A σ (mo (mE A i) V 0 100) e.2) ?_ (fun e he => ok_some he)
  refine wh_0 (P := fun k (s : Int32 × Sg) => s.1 = nI k ∧ Adv A σ (mo (mE A i) V 0 k) s.2) 100 (by omega) ⟨rfl, hA0⟩ ?_
  rintro k ⟨x, s⟩ hk ⟨e1, hA⟩
  dsimp at e1 hA
  subst e1
  unfold b_X0_seekCellOf_40
  dsimp +instances only
  by_cases hlt : k < 100
  · left
    refine ⟨hlt, ok_f (show ¬ nI 100 ≤ nI k from nnle hlt (by omega)) ?_⟩
    obtain ⟨hs, hX, h2, h3⟩ := hA
    refine ok_bind (Q := Adv A σ (mo (mE A i) V 0 (k + 1))) ?_ (fun s' h' => ok_some ⟨_, rfl, nI_1 _, h'⟩)
    have main : mE A i k = true → Ok ((f_X7_movePeg 13 (nI i) (nI k) s).bind fun (y11 : Sg) => (f_X2_wonBy 13 (nI (A (7 + i))) y11).bind fun (y12 : (Int32 × Sg)) => app (f_X0_offerMost (nI k) (f_J6_bitCount_0f7a4 y12.1) y12.2) fun (σ13 : Sg) => (f_X7_movePeg 13 (nI i) (nI (A i)) σ13).bind fun (y14 : Sg) => some y14) (Adv A σ (mo (mE A i) V 0 (k + 1))) := fun hE => by
      obtain ⟨hc, hf⟩ := (mE_iff hW.1 hi).mp hE
      obtain ⟨s1, f1, f2, f3⟩ := x_movePeg hX hW.1 hi hc hf
      have hWB := WF_mvP hW hi hc hf
      obtain ⟨m, s2, g1, g2, g3⟩ := x_vw (r := A (7 + i)) f2.g hWB gOf_lt2 w5.2
      rw [f1, Option.bind_some, g1, Option.bind_some]
      refine ok_app ?_
      dsimp only
      rw [g2, hV']
      have k25 : s2 25 = s 25 := by rw [g3 25 (by unfold crt; omega), f3 25 (by unfold slp; omega)]
      have hm := mo_le (e := mE A i) (v := V) (n0 := 0) (N := 6) (by omega) hv6 k
      obtain ⟨o1, o2, o3⟩ := x_offer (s := s2) (p := mo (mE A i) V 0 k) (c := k) (v := V k) (by rw [k25]; exact h2) (by rw [k25]; exact h3) (by have := hv6 k; omega) (by omega)
      have hX2 : RX 13 (mvP A i k) (f_X0_offerMost (nI k) (nI (V k)) s2) := (f2.g.cr g3).rx.fr o3 (fun k hk => by omega)
      have hi2 : i < mvP A i k 38 := by rw [show mvP A i k 38 = A 38 from pu_n _ _ (by omega)]; exact hi
      have hb : gOf (mvP A i k) (A i) = 0 ∨ mvP A i k i = A i := by
        by_cases z : A i = k
        · right
          rw [show mvP A i k i = k from pu_s _ _ _, z]
        · left
          rw [gOf_mvP hW.1 hi hf, if_neg z, if_pos rfl]
      obtain ⟨s4, u1, u2, u3⟩ := x_movePeg hX2 hWB.1 hi2 w5.1 hb
      rw [mvP_back] at u2
      rw [u1]
      refine ok_some ⟨(((hs.s13 f3).c13 g3).a25 o3).s13 u3, u2, ?_, ?_⟩
      · rw [u3 25 (by unfold slp; omega), o1]
        conv => rhs; unfold mo
        rw [if_pos hE]
      · rw [u3 25 (by unfold slp; omega), o2]
        conv => rhs; unfold mo
        rw [if_pos hE]
    have hno : mE A i k = false → Ok (some s) (Adv A σ (mo (mE A i) V 0 (k + 1))) := fun z => by
      rw [mo_skip z]
      exact ok_some ⟨hs, hX, h2, h3⟩
    by_cases hk0 : k = A i
    · have hE : mE A i k = true := by unfold mE; simp [hk0]
      exact ok_t (by rw [hk0]) (main hE)
    · refine ok_f (fun z => hk0 ((nI_eq (by omega) (by have := w5.1.1; omega)).mp z)) ?_
      by_cases hc : okc k
      · rw [x_isFree hX w1 hc, Option.bind_some]
        by_cases hg : gOf A k = 0
        · rw [if_pos hg, if_neg z10]
          exact main ((mE_iff hW.1 hi).mpr ⟨hc, Or.inl hg⟩)
        · rw [if_neg hg, if_pos rfl]
          exact hno (by
            cases z : mE A i k with
            | false => rfl
            | true => exact absurd ((mE_iff hW.1 hi).mp z).2 (fun q => q.elim hg (fun q2 => hk0 q2.symm)))
      · have hf : f_X7_isFree 13 (nI k) s = some 0 := by
          unfold f_X7_isFree
          rw [xCell.2 (fun z => hc ((isC_iff (by omega)).mp z)), if_pos rfl]
        rw [hf, Option.bind_some, if_pos rfl]
        exact hno (by
          cases z : mE A i k with
          | false => rfl
          | true => exact absurd ((mE_iff hW.1 hi).mp z).1 hc)
  · right
    obtain rfl : k = 100 := by omega
    exact ok_t (by decide) (ok_some ⟨_, rfl, hA⟩)
theorem m_seekCell {A : Pg} {I : Nat → Pg} {σ s0 : Sg} {i : Nat} (h : InvA A I σ) (hi : i < A 38) (hs0 : Same σ s0) (hM0 : RM 164 A s0) : Ok (wh (b_X10_move_36 (nI i)) 4096 ((-1 : Int32), (0 : Int32), (0 : Int32), s0)) (fun e => e.1 = nI (mo (mE A i) (fun x => vw (mvP A i x) (gOf (mvP A i x)) (A (7 + i))) 0 98).2 - 1 ∧ e.2.1 = b0 (mo (mE A i) (fun x => vw (mvP A i x) (gOf (mvP A i x)) (A (7 + i))) 0 98).1 ∧ Same σ e.2.2.2) := by
  have hW := h.2.2.2.1
  have w1 := hW.1.1
  have w3 := hW.1.2.2.1
  have w5 := hW.1.2.2.2.2.1 i hi
  have e40 : ∀ x, mvP A i x 40 = A 40 := fun x => pu_n _ _ (by omega)
  have hv : ∀ x, vw (mvP A i x) (gOf (mvP A i x)) (A (7 + i)) ≤ 6 := fun x => vw_le (by rw [e40]; exact w3)
  generalize hV : (fun x => vw (mvP A i x) (gOf (mvP A i x)) (A (7 + i))) = V
  have hV' : ∀ x, vw (mvP A i x) (gOf (mvP A i x)) (A (7 + i)) = V x := fun x => by rw [← hV]
  have hv6 : ∀ x, V x ≤ 6 := fun x => by rw [← hV']; exact hv x
  refine wh_0 (P := fun k (s : Int32 × Int32 × Int32 × Sg) => s.1 = nI (mo (mE A i) V 0 k).2 - 1 ∧ s.2.1 = b0 (mo (mE A i) V 0 k).1 ∧ s.2.2.1 = nI k ∧ Same σ s.2.2.2 ∧ ∃ v, RM 164 (mvP A i v) s.2.2.2) 98 (by omega) ⟨rfl, rfl, rfl, hs0, A i, by unfold mvP; rw [pu_id]; exact hM0⟩ ?_
  rintro k ⟨num, best, x, s⟩ hk ⟨e1, e2, e3, hs, v, hM⟩
  dsimp at e1 e2 e3 hs hM
  subst e3
  unfold b_X10_move_36
  dsimp +instances only
  by_cases hlt : k < 98
  · left
    refine ⟨hlt, ok_f (show ¬ nI 98 ≤ nI k from nnle hlt (by omega)) ?_⟩
    have hI := h.same hs
    refine ok_bind (Q := fun j => j.1 = nI (mo (mE A i) V 0 (k + 1)).2 - 1 ∧ j.2.1 = b0 (mo (mE A i) V 0 (k + 1)).1 ∧ Same σ j.2.2 ∧ ∃ v, RM 164 (mvP A i v) j.2.2) ?_ (fun j hj => ok_some ⟨_, rfl, hj.1, hj.2.1, nI_1 _, hj.2.2⟩)
    have hno : mE A i k = false → Ok (some (num, best, s)) (fun j => j.1 = nI (mo (mE A i) V 0 (k + 1)).2 - 1 ∧ j.2.1 = b0 (mo (mE A i) V 0 (k + 1)).1 ∧ Same σ j.2.2 ∧ ∃ v, RM 164 (mvP A i v) j.2.2) := fun z => by
      rw [mo_skip z]
      exact ok_some ⟨e1, e2, hs, v, hM⟩
    have i1 : inR (nI (164 + i)) 205 = true := inR_of (vp_in_nI (by omega) (by omega))
    have i2 : inR (nI (7 + i)) 205 = true := inR_of (vp_in_nI (by omega) (by omega))
    have i3 : inR (nI i) 205 = true := inR_of (vp_in_nI (by omega) (by omega))
    have main : mE A i k = true → Ok (if inR ((164 : Int32) + nI i) 205 then
        app (up2 s 76 ((164 : Int32) + nI i).toNatClampNeg (nI k)) fun (σ22 : Sg) =>
        if inR ((7 : Int32) + nI i) 205 then
        (f_X10_winsOn (164 : Int32) (σ22 76 ((7 : Int32) + nI i).toNatClampNeg) σ22).bind fun (y24 : (Int32 × Sg)) =>
        (f_X10_bitsOf y24.1).bind fun (y25 : Int32) =>
        app (if y25 ≤ num then
          best
        else
          nI k) fun (j26 : Int32) =>
        app (if y25 ≤ num then
          num
        else
          y25) fun (j28 : Int32) =>
        some (j28, j26, y24.2)
        else none
        else none) (fun j => j.1 = nI (mo (mE A i) V 0 (k + 1)).2 - 1 ∧ j.2.1 = b0 (mo (mE A i) V 0 (k + 1)).1 ∧ Same σ j.2.2 ∧ ∃ v, RM 164 (mvP A i v) j.2.2) := fun hE => by
      obtain ⟨hc, hf⟩ := (mE_iff hW.1 hi).mp hE
      have hM2 : RM 164 (mvP A i k) (up2 s 76 (164 + i) (nI k)) := by
        have := hM.pu (k := i) (v := k)
        unfold mvP at this ⊢
        rwa [pu_pu] at this
      obtain ⟨m, s3, u1, u2, u3⟩ := m_vw (p := 164) (r := A (7 + i)) hM2 (by omega) (WF_mvP hW hi hc hf) w5.2
      have u1' : f_X10_winsOn 164 (nI (A (7 + i))) (up2 s 76 (164 + i) (nI k)) = some (m, s3) := u1
      rw [show (164 : Int32) + nI i = nI (164 + i) from nI_add 164 i, show (7 : Int32) + nI i = nI (7 + i) from nI_add 7 i, if_pos i1, nI_clamp (by omega)]
      refine ok_app ?_
      rw [if_pos i2, nI_clamp (by omega), up2_slot _ _ (by omega), zrm hI.2.1 (by omega), u1', Option.bind_some, u2, Option.bind_some, hV']
      have hm := mo_le (e := mE A i) (v := V) (n0 := 0) (N := 6) (by omega) hv6 k
      obtain ⟨o1, o2⟩ := m_offer (c := k) (v := V k) b0 b0_s e2 e1 (by have := hv6 k; omega) (by omega)
      simp only [app]
      rw [o1, o2]
      refine ok_some ⟨?_, ?_, (hs.p (by omega)).tr (Same.m u3), k, hM2.fr u3⟩
      · conv => rhs; unfold mo
        rw [if_pos hE]
      · conv => rhs; unfold mo
        rw [if_pos hE]
    by_cases hc : okc k
    · rw [mCell.1 ((isC_iff (by omega)).mpr hc), if_neg z10]
      have hf : f_X10_isFreeOn 0 (nI k) s = _ := m_isFreeOn (p := 0) hI.2.1 (by omega) hW.1 (by omega)
      rw [hf, Option.bind_some]
      by_cases hg : gOf A k = 0
      · rw [if_pos hg, if_neg z10]
        exact main ((mE_iff hW.1 hi).mpr ⟨hc, Or.inl hg⟩)
      · rw [if_neg hg, if_pos rfl, if_pos i3, nI_clamp (by omega), zrm hI.2.1 (by omega)]
        by_cases hk0 : A i = k
        · rw [if_pos (by rw [hk0])]
          exact main ((mE_iff hW.1 hi).mpr ⟨hc, Or.inr hk0⟩)
        · rw [if_neg (fun z => hk0 ((nI_eq (by have := w5.1.1; omega) (by omega)).mp z))]
          exact hno (by
            cases z : mE A i k with
            | false => rfl
            | true => exact absurd ((mE_iff hW.1 hi).mp z).2 (fun q => q.elim hg hk0))
    · rw [mCell.2 (fun z => hc ((isC_iff (by omega)).mp z)), if_pos rfl]
      exact hno (by
        cases z : mE A i k with
        | false => rfl
        | true => exact absurd ((mE_iff hW.1 hi).mp z).1 hc)
  · right
    obtain rfl : k = 98 := by omega
    exact ok_t (by decide) (ok_some ⟨_, rfl, e1, e2, hs⟩)
theorem op_move {σ : Sg} (h : Inv σ) (a b : Int32) : Op (f_X9_move a b σ) (f_X10_move a b) := by
  obtain ⟨A, I, h⟩ := h
  have hW := h.2.2.2.1
  have w1 := hW.1.1
  have w2 := hW.1.2.1
  have xp := xPeg (x := a) h.1.1 (by omega)
  have mp := mPeg (x := a) (zrm h.2.1 (by omega) : σ 76 38 = nI (A 38)) (by omega)
  by_cases hv : vp_in a (A 38)
  · by_cases hb : vp_in b 2
    · obtain ⟨i, hi, rfl⟩ := vin_nI hv (by omega)
      have w5 := (hW.1.2.2.2.2.1 i hi).1
      have h98 : ∀ V, mo (mE A i) V 0 100 = mo (mE A i) V 0 98 := fun V => by
        have w51 := w5.1
        have e8 : mE A i 98 = false := by unfold mE fE; simp; omega
        have e9 : mE A i 99 = false := by unfold mE fE; simp; omega
        rw [mo_skip e9, mo_skip e8]
      have hvV : ∀ x, vw (mvP A i x) (gOf (mvP A i x)) (A (7 + i)) ≤ 6 := fun x => vw_le (by rw [show mvP A i x 40 = A 40 from pu_n _ _ (by omega)]; exact hW.1.2.2.1)
      generalize hV : (fun x => vw (mvP A i x) (gOf (mvP A i x)) (A (7 + i))) = V
      have hvV' : ∀ x, V x ≤ 6 := fun x => by rw [← hV]; exact hvV x
      have hne : (mo (mE A i) V 0 98).1 ≠ 0 := fun z => by
        have := (mo_none 98 z).2 (A i) w5.1
        unfold mE at this
        simp at this
      have hm := mo_le (e := mE A i) (v := V) (n0 := 0) (N := 6) (by omega) hvV' 98
      refine op_q h (r := if b = 0 then nI ((mo (mE A i) V 0 98).1 - 1) else nI (mo (mE A i) V 0 98).2 - 1) ?_ (fun σ1 h' => ?_)
      · obtain ⟨g1, g2⟩ := x_copyFrom (b := 13) h.1 hW.1 (by omega)
        unfold f_X9_move
        rw [xp.1 hv, xHalf.1 hb, if_neg z10, if_neg z10]
        refine ok_app ?_
        refine ok_bind (x_seekCell g1 hW hi) (fun y hy => ok_some ⟨?_, (Same.rf.s13 g2).tr hy.1⟩)
        rw [hV, h98] at hy
        dsimp only
        rw [told_at hy.2.2.1 hy.2.2.2 (by omega), if_neg hne]
      · unfold f_X10_move
        rw [(mPeg (zrm h'.2.1 (by omega) : σ1 76 38 = nI (A 38)) (by omega)).1 hv, mHalf.1 hb, if_neg z10, if_neg z10]
        refine ok_bind (m_copies (p := 0) (q := 164) h'.2.1 (by omega) (by omega) (by omega)) (fun s0 hs0 => ?_)
        refine ok_bind (m_seekCell h' hi (Same.pg hs0.2) hs0.1) (fun e he => ?_)
        rw [hV] at he
        obtain ⟨q1, q2, q3⟩ := he
        by_cases z : b = 0
        · rw [if_pos z, if_pos z]
          exact ok_some ⟨by dsimp only; rw [q2, b0_pos hne], q3⟩
        · rw [if_neg z, if_neg z]
          exact ok_some ⟨q1, q3⟩
    · refine op_0 h (r := -1) ?_ ?_
      · unfold f_X9_move
        rw [xp.1 hv, xHalf.2 hb, if_neg z10, if_pos rfl]
      · unfold f_X10_move
        rw [mp.1 hv, mHalf.2 hb, if_neg z10, if_pos rfl]
  · refine op_0 h (r := -1) ?_ ?_
    · unfold f_X9_move
      rw [xp.2 hv, if_pos rfl]
    · unfold f_X10_move
      rw [mp.2 hv, if_pos rfl]
