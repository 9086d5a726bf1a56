theorem m_seekNeedless {A : Pg} {I : Nat → Pg} {σ s0 : Sg} {r w0 : Nat} (h : InvA A I σ) (hr : r < 4) (hw0 : w0 ≤ 6) (hs0 : Same σ s0) : Ok (wh (b_X10_pull_36 (nI r)) 4096 (nI w0, (-4 : Int32), (0 : Int32), s0)) (fun e => e.1 = nI (mo (fun _ => true) (fun i => vw A (fun x => if x = A i then 0 else gOf A x) r) (w0 + 1) (A 38)).2 - 1 ∧ e.2.1 = rI (mo (fun _ => true) (fun i => vw A (fun x => if x = A i then 0 else gOf A x) r) (w0 + 1) (A 38)).1 ∧ Same σ e.2.2.2) := by
  have hW := h.2.2.2.1
  have w1 := hW.1.1
  have w3 := hW.1.2.2.1
  have hv6' : ∀ i, vw A (fun x => if x = A i then 0 else gOf A x) r ≤ 6 := fun i => vw_le w3
  generalize hV : (fun i => vw A (fun x => if x = A i then 0 else gOf A x) r) = V
  have hV' : ∀ i, vw A (fun x => if x = A i then 0 else gOf A x) r = V i := fun i => by rw [← hV]
  have hv6 : ∀ x, V x ≤ 6 := fun x => by rw [← hV']; exact hv6' x
  refine wh_0 (P := fun k (s : Int32 × Int32 × Int32 × Sg) => s.1 = nI (mo (fun _ => true) V (w0 + 1) k).2 - 1 ∧ s.2.1 = rI (mo (fun _ => true) V (w0 + 1) k).1 ∧ s.2.2.1 = nI k ∧ Same σ s.2.2.2) (A 38) (by omega) ⟨(nI_pred w0).symm, rfl, rfl, hs0⟩ ?_
  rintro k ⟨num, best, x, s⟩ hk ⟨e1, e2, e3, hs⟩
  dsimp at e1 e2 e3 hs
  subst e3
  have hI := h.same hs
  unfold b_X10_pull_36
  dsimp +instances only
  rw [c38', zrm hI.2.1 (by omega)]
  by_cases hlt : k < A 38
  · left
    refine ⟨hlt, ok_f (nnle hlt (by omega)) ?_⟩
    obtain ⟨s1, f1, f2, f3⟩ := m_copies (p := 0) (q := 164) hI.2.1 (by omega) (by omega) (by omega)
    have f1' : f_X10_copies 0 164 s = some s1 := f1
    have hM1 : RM 0 A s1 := hI.2.1.ag f3 (fun j z => by unfold Pgp at z; omega)
    obtain ⟨⟨x', s2⟩, g1, g2, g3⟩ := m_pullT hM1 f2 w1 hlt
    dsimp at g2 g3
    have e202 : s2 76 202 = nI (A 38) := by
      have := g2 38 (by omega)
      rw [show 164 + 38 = 202 from rfl] at this
      rw [this]
      unfold pullT
      rw [if_neg (by omega)]
    have e38 : nI (A 38) - 1 = nI (A 38 - 1) := by
      obtain ⟨n, hn⟩ : ∃ n, A 38 = n + 1 := ⟨A 38 - 1, by omega⟩
      rw [hn, nI_pred]
      rfl
    have hM3 : RM 164 (pullP A k) (up2 s2 76 202 (nI (A 38 - 1))) := g2.pu (k := 38) (v := A 38 - 1)
    obtain ⟨m, s3, u1, u2, u3⟩ := m_vw (p := 164) (r := r) hM3 (by omega) (WF_pullP hW hlt) hr
    have u1' : f_X10_winsOn 164 (nI r) (up2 s2 76 202 (nI (A 38 - 1))) = some (m, s3) := u1
    rw [vw_pull hW hlt, hV'] at u2
    rw [f1', Option.bind_some, g1, Option.bind_some]
    refine ok_app ?_
    dsimp +instances only
    rw [show (202 : Int32).toNatClampNeg = 202 from rfl, e202, e38, u1', Option.bind_some, u2, Option.bind_some]
    have hm := mo_le (e := fun _ => true) (v := V) (n0 := w0 + 1) (N := 6) (by omega) hv6 k
    obtain ⟨o1, o2⟩ := m_offer (c := k) (v := V k) rI rI_s e2 e1 (by have := hv6 k; omega) (by omega)
    simp only [app]
    rw [o1, o2]
    exact ok_some ⟨_, rfl, rfl, rfl, nI_1 _, (((hs.tr (Same.pg f3)).tr (Same.pg g3)).p (by omega)).tr (Same.m u3)⟩
  · right
    obtain rfl : k = A 38 := by omega
    exact ok_t (nle (Nat.le_refl _) (by omega)) (ok_some ⟨_, rfl, e1, e2, hs⟩)
theorem op_pull {σ : Sg} (h : Inv σ) (a b : Int32) : Op (f_X9_pull a b σ) (f_X10_pull a b) := by
  obtain ⟨A, I, h⟩ := h
  have hW := h.2.2.2.1
  have w1 := hW.1.1
  have w3 := hW.1.2.2.1
  by_cases hv : vp_in a 4
  · by_cases hb : vp_in b 2
    · obtain ⟨r, hr, rfl⟩ := vin_nI hv (by omega)
      have hw6 : vw A (gOf A) r ≤ 6 := vw_le w3
      have hvV : ∀ i, vw A (fun x => if x = A i then 0 else gOf A x) r ≤ 6 := fun i => vw_le w3
      have hm := mo_le (e := fun _ => true) (v := fun i => vw A (fun x => if x = A i then 0 else gOf A x) r) (n0 := vw A (gOf A) r + 1) (N := 6) (by omega) hvV (A 38)
      generalize hp : mo (fun _ => true) (fun i => vw A (fun x => if x = A i then 0 else gOf A x) r) (vw A (gOf A) r + 1) (A 38) = p at hm
      refine op_q h (r := if p.1 = 0 then -4 else if b = 0 then nI (p.1 - 1) else nI p.2 - 1) ?_ (fun σ1 h' => ?_)
      · obtain ⟨g1, g2⟩ := x_copyFrom (b := 13) h.1 hW.1 (by omega)
        unfold f_X9_pull
        rw [xRag.1 hv, xHalf.1 hb, if_neg z10, if_neg z10]
        refine ok_app ?_
        refine ok_bind (x_seekNeedless g1 hW hr) (fun y hy => ok_some ⟨?_, (Same.rf.s13 g2).tr hy.1⟩)
        rw [hp] at hy
        dsimp only
        rw [told_at hy.2.2.1 hy.2.2.2 (by omega)]
      · unfold f_X10_pull
        rw [mRag.1 hv, mHalf.1 hb, if_neg z10, if_neg z10]
        obtain ⟨m, s0, f1, f2, f3⟩ := m_vw (p := 0) (r := r) h'.2.1 (by omega) hW hr
        have f1' : f_X10_winsOn 0 (nI r) σ1 = some (m, s0) := f1
        rw [f1', Option.bind_some]
        dsimp +instances only
        rw [f2, Option.bind_some]
        refine ok_bind (m_seekNeedless h' hr hw6 (Same.m f3)) (fun e he => ?_)
        rw [hp] at he
        obtain ⟨q1, q2, q3⟩ := he
        rw [q1, q2]
        by_cases z0 : p.1 = 0
        · rw [z0, if_pos rI_0, if_pos rfl]
          exact ok_some ⟨rfl, q3⟩
        · rw [if_neg (fun q => z0 ((rI_none (by omega)).mp q)), if_neg z0]
          by_cases z : b = 0
          · rw [if_pos z, if_pos z]
            refine ok_some ⟨?_, q3⟩
            dsimp only
            unfold rI
            rw [if_neg z0]
          · rw [if_neg z, if_neg z]
            exact ok_some ⟨rfl, q3⟩
    · refine op_0 h (r := -1) ?_ ?_
      · unfold f_X9_pull
        rw [xRag.1 hv, xHalf.2 hb, if_neg z10, if_pos rfl]
      · unfold f_X10_pull
        rw [mRag.1 hv, mHalf.2 hb, if_neg z10, if_pos rfl]
  · refine op_0 h (r := -1) ?_ ?_
    · unfold f_X9_pull
      rw [xRag.2 hv, if_pos rfl]
    · unfold f_X10_pull
      rw [mRag.2 hv, if_pos rfl]
