/-- changes of the reference's pages -/
theorem m_isFreeOn {p c : Nat} {A : Pg} {σ : Sg} (hM : RM p A σ) (hp : p + 41 ≤ 205) (hW : WFs A) (hc : c < 2 ^ 31) : f_X10_isFreeOn (nI p) (nI c) σ = some (if gOf A c = 0 then 1 else 0) := by
  obtain ⟨w1, w2, w3, w4, w5, w6, w7, w8, w9, w10, w11⟩ := hW
  unfold f_X10_isFreeOn
  rw [m_pegOn hM hp w1 (fun i hi => by have := (w5 i hi).1.1; omega) hc, Option.bind_some, m_slugOn hM hp w2 (fun i hi => by have := (w6 i hi).1; omega) hc]
  unfold gOf
  by_cases v1 : fnd (A 39) (fun i => A (14 + i)) c < A 39
  · rw [if_pos v1, if_pos v1, Option.bind_some, if_neg (nneg4 (n := fnd (A 39) (fun i => A (14 + i)) c) (by omega)), ite_self, if_neg (by omega)]
  · rw [if_neg v1, if_neg v1, Option.bind_some, if_pos rfl]
    by_cases v0 : fnd (A 38) A c < A 38
    · rw [if_pos v0, if_pos v0, if_neg (nneg4 (n := fnd (A 38) A c) (by omega)), if_neg (by omega)]
    · rw [if_neg v0, if_neg v0, if_pos rfl, if_pos rfl]
/-- one page's slots -/
def Pgp (p : Nat) (c j : Nat) : Prop := c = 76 ∧ p ≤ j ∧ j < p + 41
theorem m_drivesOn {p c k : Nat} {A : Pg} {σ : Sg} (hM : RM p A σ) (hp : p + 41 ≤ 205) (h7 : A 38 < 7) : Ok (f_X10_drivesOn (nI p) (nI c) (nI k) σ) (fun σ' => RM p (pPeg A c k) σ' ∧ Agr (Pgp p) σ σ') := by
  unfold f_X10_drivesOn
  rw [show (38 : Int32) = nI 38 from rfl, nI_add, show (7 : Int32) = nI 7 from rfl]
  have c1 : vp_in (nI (p + 38)) 205 := vp_in_nI (by omega) (by omega)
  refine ok_in c1 (ok_app ?_)
  rw [nI_clamp (by omega), hM 38 (by omega), nI_add, nI_add3]
  refine ok_in (vp_in_nI (by omega) (by omega)) (ok_app (ok_in (vp_in_nI (by omega) (by omega)) (ok_app (ok_in c1 (ok_in c1 (ok_some ?_))))))
  rw [nI_clamp (by omega), nI_clamp (by omega)]
  have e : up2 (up2 σ 76 (p + A 38) (nI c)) 76 (p + (7 + A 38)) (nI k) 76 (p + 38) = nI (A 38) := by
    rw [up2_slot _ _ (by omega), up2_slot _ _ (by omega)]
    exact hM 38 (by omega)
  rw [e, nI_1]
  exact ⟨((hM.pu (k := A 38) (v := c)).pu (k := 7 + A 38) (v := k)).pu (k := 38) (v := A 38 + 1), ((Agr.rf.up (by unfold Pgp; omega)).up (by unfold Pgp; omega)).up (by unfold Pgp; omega)⟩
theorem m_laysOn {p c : Nat} {A : Pg} {σ : Sg} (hM : RM p A σ) (hp : p + 41 ≤ 205) (h7 : A 39 < 4) : Ok (f_X10_laysOn (nI p) (nI c) σ) (fun σ' => RM p (pSlug A c) σ' ∧ Agr (Pgp p) σ σ') := by
  unfold f_X10_laysOn
  rw [show (39 : Int32) = nI 39 from rfl, nI_add, show (14 : Int32) = nI 14 from rfl]
  have c1 : vp_in (nI (p + 39)) 205 := vp_in_nI (by omega) (by omega)
  refine ok_in c1 ?_
  rw [nI_clamp (by omega), hM 39 (by omega), nI_add3]
  refine ok_app (ok_in (vp_in_nI (by omega) (by omega)) (ok_app (ok_in c1 (ok_in c1 (ok_some ?_)))))
  rw [nI_clamp (by omega)]
  have e : up2 σ 76 (p + (14 + A 39)) (nI c) 76 (p + 39) = nI (A 39) := by
    rw [up2_slot _ _ (by omega)]
    exact hM 39 (by omega)
  rw [e, nI_1]
  exact ⟨(hM.pu (k := 14 + A 39) (v := c)).pu (k := 39) (v := A 39 + 1), (Agr.rf.up (by unfold Pgp; omega)).up (by unfold Pgp; omega)⟩
theorem m_copies {p q : Nat} {A : Pg} {σ : Sg} (hM : RM p A σ) (hp : p + 41 ≤ 205) (hq : q + 41 ≤ 205) (hd : p + 41 ≤ q ∨ q + 41 ≤ p) : Ok (f_X10_copies (nI p) (nI q) σ) (fun σ' => RM q A σ' ∧ Agr (Pgp q) σ σ') := by
  unfold f_X10_copies
  refine ok_bind (Q := fun e => (∀ k, k < 41 → e.2 76 (q + k) = nI (A k)) ∧ Agr (Pgp q) σ e.2) ?_ (fun e he => ok_some he)
  refine wh_0 (P := fun k s => s.1 = nI k ∧ (∀ j, j < k → s.2 76 (q + j) = nI (A j)) ∧ Agr (Pgp q) σ s.2) 41 (by omega) ⟨rfl, fun j hj => by omega, Agr.rf⟩ ?_
  rintro k ⟨i, s⟩ hk ⟨e1, e2, ha⟩
  dsimp at e1 e2 ha
  subst e1
  unfold b_X10_copies_2
  dsimp +instances only
  by_cases hlt : k < 41
  · left
    refine ⟨hlt, ok_f (show ¬ nI 41 ≤ nI k from nnle hlt (by omega)) ?_⟩
    rw [nI_add, nI_add, nI_clamp (by omega), nI_clamp (by omega)]
    refine ok_in (vp_in_nI (by omega) (by omega)) (ok_in (vp_in_nI (by omega) (by omega)) (ok_some ⟨_, rfl, nI_1 _, fun j hj => ?_, ha.up (by unfold Pgp; omega)⟩))
    dsimp only
    by_cases e : j = k
    · subst e
      rw [up2_same, ha _ _ (by unfold Pgp; omega)]
      exact hM j (by omega)
    · rw [up2_slot _ _ (by omega)]
      exact e2 j (by omega)
  · right
    obtain rfl : k = 41 := by omega
    exact ok_t (by decide) (ok_some ⟨_, rfl, e2, ha⟩)
/-- to drive a peg in: what is answered, and the page -/
def drv (A : Pg) (a r : Int32) : Int32 × Pg := if f_X7_isCell a = 0 then (-1, A) else if f_X9_isRag r = 0 then (-1, A) else if gOf A a.toNatClampNeg ≠ 0 then (-2, A) else if A 38 = 7 then (-3, A) else (nI (A 38 + 1), pPeg A a.toNatClampNeg r.toNatClampNeg)
theorem drv_no {A : Pg} {a r : Int32} (h : ¬ (isC a ∧ vp_in r 4)) : drv A a r = (-1, A) := by
  unfold drv
  by_cases hc : isC a
  · have hr : ¬ vp_in r 4 := fun z => h ⟨hc, z⟩
    rw [xRag.2 hr, if_pos rfl, ite_self]
  · rw [xCell.2 hc, if_pos rfl]
theorem drv_at {A : Pg} {c k : Nat} (hc : okc c) (hk : k < 4) : drv A (nI c) (nI k) = if gOf A c ≠ 0 then (-2, A) else if A 38 = 7 then (-3, A) else (nI (A 38 + 1), pPeg A c k) := by
  unfold drv
  have := hc.1
  rw [xCell.1 ⟨c, hc, rfl⟩, xRag.1 (vp_in_nI hk (by omega)), if_neg z10, if_neg z10, nI_clamp (by omega), nI_clamp (by omega)]
theorem x_drv {b : Nat} {A : Pg} {σ : Sg} {a r : Int32} (h : RX b A σ) (hW : WFs A) : Ok (f_X7_addPeg b a r σ) (fun y => y.1 = (drv A a r).1 ∧ RX b (drv A a r).2 y.2 ∧ Fr (slp b) σ y.2) := by
  by_cases hcr : isC a ∧ vp_in r 4
  · obtain ⟨⟨c, hc, rfl⟩, hr⟩ := hcr
    obtain ⟨k, hk, rfl⟩ := vin_nI hr (by omega)
    rw [drv_at hc hk]
    obtain ⟨q1, q2, q3⟩ := x_addPeg h hW hc hk
    have w1 := hW.1
    by_cases hg : gOf A c = 0
    · rw [if_neg (fun z => z hg)]
      by_cases h7 : A 38 = 7
      · rw [if_pos h7]
        exact ok_eq (q2 hg h7) ⟨rfl, h, Fr.rf⟩
      · rw [if_neg h7]
        exact q3 hg (by omega)
    · rw [if_pos hg]
      exact ok_eq (q1 hg) ⟨rfl, h, Fr.rf⟩
  · rw [drv_no hcr]
    refine ok_eq (x := (-1, σ)) ?_ ⟨rfl, h, Fr.rf⟩
    unfold f_X7_addPeg
    by_cases hc : isC a
    · have hr : ¬ vp_in r 4 := fun z => hcr ⟨hc, z⟩
      rw [xRag.2 hr, if_pos rfl, ite_self]
    · rw [xCell.2 hc, if_pos rfl]
theorem m_drv {A : Pg} {σ : Sg} {a r : Int32} (hM : RM 0 A σ) (hW : WFs A) : Ok (f_X10_drives a r σ) (fun y => y.1 = (drv A a r).1 ∧ RM 0 (drv A a r).2 y.2 ∧ Agr (Pgp 0) σ y.2) := by
  unfold f_X10_drives
  by_cases hcr : isC a ∧ vp_in r 4
  · obtain ⟨hca, hr⟩ := hcr
    obtain ⟨c, hc, rfl⟩ := id hca
    obtain ⟨k, hk, rfl⟩ := vin_nI hr (by omega)
    have hc1 := hc.1
    rw [drv_at hc hk, mCell.1 hca, mRag.1 hr, if_neg z10, if_neg z10, show (0 : Int32) = nI 0 from rfl, m_isFreeOn hM (by omega) hW (by omega), Option.bind_some, show (38 : Int32).toNatClampNeg = 38 from rfl, zrm hM (by omega)]
    have w1 := hW.1
    by_cases hg : gOf A c = 0
    · rw [if_pos hg, if_neg (show ¬ gOf A c ≠ 0 from fun z => z hg), if_neg (show ¬ (1 : Int32) = nI 0 by decide)]
      by_cases h7 : A 38 = 7
      · rw [if_pos h7, h7, if_pos (by decide)]
        exact ok_some ⟨rfl, hM, Agr.rf⟩
      · rw [if_neg h7, if_neg (show ¬ nI (A 38) = 7 from nne (b := 7) h7 (by omega) (by omega))]
        refine ok_bind (m_drivesOn hM (by omega) (by omega)) (fun y hy => ok_some ⟨?_, hy.1, hy.2⟩)
        have e38 : pPeg A c k 38 = A 38 + 1 := by unfold pPeg; rw [pu_s]
        dsimp only
        rw [zrm hy.1 (by omega), e38]
    · rw [if_neg hg, if_pos hg, if_pos (show (0 : Int32) = nI 0 from rfl)]
      exact ok_some ⟨rfl, hM, Agr.rf⟩
  · rw [drv_no hcr]
    by_cases hc : isC a
    · have hr : ¬ vp_in r 4 := fun z => hcr ⟨hc, z⟩
      rw [mRag.2 hr, if_pos rfl, ite_self]
      exact ok_some ⟨rfl, hM, Agr.rf⟩
    · rw [mCell.2 hc, if_pos rfl]
      exact ok_some ⟨rfl, hM, Agr.rf⟩
theorem drv_same {A : Pg} {a r : Int32} {k : Nat} (h7 : A 38 ≤ 7) (hk : (14 ≤ k ∧ k < 38) ∨ 39 ≤ k) : (drv A a r).2 k = A k := by
  unfold drv
  split
  · rfl
  · split
    · rfl
    · split
      · rfl
      · split
        · rfl
        · show pPeg _ _ _ _ = _
          unfold pPeg
          rw [pu_n _ _ (by omega), pu_n _ _ (by omega), pu_n _ _ (by omega)]
theorem WFs_drv {A : Pg} {a r : Int32} (hW : WFs A) : WFs (drv A a r).2 := by
  by_cases hcr : isC a ∧ vp_in r 4
  · obtain ⟨⟨c, hc, rfl⟩, hr⟩ := hcr
    obtain ⟨k, hk, rfl⟩ := vin_nI hr (by omega)
    have w1 := hW.1
    rw [drv_at hc hk]
    by_cases hg : gOf A c = 0
    · rw [if_neg (fun z => z hg)]
      by_cases h7 : A 38 = 7
      · rw [if_pos h7]; exact hW
      · rw [if_neg h7]; exact WFs_pPeg hW (by omega) hg hc hk
    · rw [if_pos hg]; exact hW
  · rw [drv_no hcr]; exact hW
theorem WF_drv {A : Pg} {a r : Int32} (hW : WF A) : WF (drv A a r).2 := by
  have w1 := hW.1.1
  have w3 := hW.1.2.2.1
  refine ⟨WFs_drv hW.1, fun i hi => ?_⟩
  rw [drv_same w1 (by omega)] at hi
  rw [drv_same w1 (by omega), drv_same w1 (by omega)]
  exact hW.2 i hi
theorem slp_Pgs {c j : Nat} (h : slp 1 c) : Pgs c j := by unfold slp at h; unfold Pgs; omega
theorem Pgp_Pgs {c j : Nat} (h : Pgp 0 c j) : Pgs c j := by unfold Pgp at h; unfold Pgs; omega
/-- both change the page -/
theorem op_pg {A B : Pg} {I : Nat → Pg} {σ : Sg} {t1 : Option (Int32 × Sg)} {t2 : Sg → Option (Int32 × Sg)} {r : Int32} (h : InvA A I σ) (hB : WF B) (e41 : B 41 = A 41) (hx : Ok t1 (fun y => y.1 = r ∧ RX 1 B y.2 ∧ Fr (slp 1) σ y.2)) (hm : ∀ σ1, RM 0 A σ1 → σ1 75 1 = nI (A 41) → Ok (t2 σ1) (fun y => y.1 = r ∧ RM 0 B y.2 ∧ Agr (Pgp 0) σ1 y.2)) : Op t1 t2 := by
  obtain ⟨⟨r1, σ1⟩, e1, q1, q2, q3⟩ := hx
  dsimp at q1 q2 q3
  have h75 : σ1 75 = σ 75 := q3 75 (by unfold slp; omega)
  have h76 : σ1 76 = σ 76 := q3 76 (by unfold slp; omega)
  obtain ⟨⟨r2, σ2⟩, e2, p1, p2, p3⟩ := hm σ1 (h.2.1.keep h76) (by rw [h75]; exact h.2.2.1)
  dsimp at p1 p2 p3
  subst q1 p1
  refine ⟨_, σ1, σ2, e1, e2, B, I, h.page (S := Pgs) ((Agr.fr q3 (fun c j z => slp_Pgs z)).tr (p3.mono (fun c j z => Pgp_Pgs z))) (fun c j z => z) (q2.ag p3 (fun c j z => by unfold Pgp at z; omega)) p2 e41 hB⟩
theorem op_drive {σ : Sg} (h : Inv σ) (a r : Int32) : Op (f_X9_drive a r σ) (f_X10_drive a r) := by
  obtain ⟨A, I, h⟩ := h
  have hW := h.2.2.2.1
  refine op_pg h (WF_drv (a := a) (r := r) hW) (drv_same hW.1.1 (by omega)) (r := (drv A a r).1) ?_ (fun σ1 hM _ => ?_)
  · exact ok_bind (x_drv h.1 hW.1) (fun y hy => ok_some hy)
  · exact ok_bind (m_drv hM hW.1) (fun y hy => ok_some hy)
theorem op_lay {σ : Sg} (h : Inv σ) (a : Int32) : Op (f_X9_lay a σ) (f_X10_lay a) := by
  obtain ⟨A, I, h⟩ := h
  have hW := h.2.2.2.1
  have w2 := hW.1.2.1
  have w3 := hW.1.2.2.1
  by_cases hca : isC a
  · obtain ⟨c, hc, rfl⟩ := id hca
    have hc1 := hc.1
    obtain ⟨q1, q2, q3⟩ := x_addSlug h.1 hW.1 hc
    have m1 : ∀ σ1, RM 0 A σ1 → f_X10_lay (nI c) σ1 = if gOf A c = 0 then (if A 39 = 4 then some (-3, σ1) else (f_X10_laysOn 0 (nI c) σ1).bind fun (y5 : Sg) => some ((y5 76 (39 : Int32).toNatClampNeg), y5)) else some (-2, σ1) := fun σ1 hM => by
      unfold f_X10_lay
      have hf : f_X10_isFreeOn 0 (nI c) σ1 = _ := m_isFreeOn (p := 0) hM (by omega) hW.1 (by omega)
      rw [mCell.1 hca, if_neg z10, hf, Option.bind_some, c39, zrm hM (by omega)]
      by_cases hg : gOf A c = 0
      · rw [if_pos hg, if_pos hg, if_neg z10]
        by_cases h4 : A 39 = 4
        · rw [if_pos h4, h4, if_pos (by decide)]
        · rw [if_neg h4, if_neg (show ¬ nI (A 39) = 4 from nne (b := 4) h4 (by omega) (by omega))]
      · rw [if_neg hg, if_neg hg, if_pos rfl]
    by_cases hg : gOf A c = 0
    · by_cases h4 : A 39 = 4
      · refine op_0 h (r := -3) ?_ ?_
        · unfold f_X9_lay; rw [q2 hg h4]; rfl
        · rw [m1 σ h.2.1, if_pos hg, if_pos h4]
      · have eo : ∀ j, j ≠ 39 → j ≠ 14 + A 39 → pSlug A c j = A j := fun j a1 a2 => by unfold pSlug; rw [pu_n _ _ a1, pu_n _ _ a2]
        refine op_pg h (B := pSlug A c) (r := nI (A 39 + 1)) ⟨WFs_pSlug hW.1 (by omega) hg hc, fun i hi => ?_⟩ (eo _ (by omega) (by omega)) ?_ (fun σ1 hM _ => ?_)
        · rw [eo _ (by omega) (by omega)] at hi; rw [eo _ (by omega) (by omega), eo _ (by omega) (by omega)]; exact hW.2 i hi
        · exact ok_bind (q3 hg (by omega)) (fun y hy => ok_some hy)
        · rw [m1 σ1 hM, if_pos hg, if_neg h4]
          refine ok_bind (m_laysOn (p := 0) hM (by omega) (by omega)) (fun y hy => ok_some ⟨?_, hy.1, hy.2⟩)
          have e39 : pSlug A c 39 = A 39 + 1 := by unfold pSlug; rw [pu_s]
          show y 76 39 = _
          rw [zrm hy.1 (by omega), e39]
    · refine op_0 h (r := -2) ?_ ?_
      · unfold f_X9_lay; rw [q1 hg]; rfl
      · rw [m1 σ h.2.1, if_neg hg]
  · refine op_0 h (r := -1) ?_ ?_
    · unfold f_X9_lay f_X7_addSlug
      rw [xCell.2 hca, if_pos rfl]
      rfl
    · unfold f_X10_lay
      rw [mCell.2 hca, if_pos rfl]
theorem op_clear {σ : Sg} (h : Inv σ) (a : Int32) : Op (f_X9_clear a σ) (f_X10_clear a) := by
  obtain ⟨A, I, h⟩ := h
  have hW := h.2.2.2.1
  have w2 := hW.1.2.1
  have w3 := hW.1.2.2.1
  have hm := inN (x := a) (n := A 39) (by omega)
  have hq := pq0 (x := a) (n := A 39) (by omega)
  by_cases hv : vp_in a (A 39 + 1)
  · obtain ⟨c1, c2⟩ := hq.mpr hv
    obtain ⟨j, hj, rfl⟩ := vin_nI hv (by omega)
    have eo : ∀ k, k ≠ 39 → cutS A j k = A k := fun k hk => pu_n _ _ hk
    refine op_pg h (B := cutS A j) (r := nI (A 39)) ⟨WFs_cutS hW.1 (by omega), fun i hi => ?_⟩ (eo _ (by omega)) ?_ (fun σ1 hM _ => ?_)
    · rw [eo _ (by omega)] at hi; rw [eo _ (by omega), eo _ (by omega)]; exact hW.2 i hi
    · unfold f_X9_clear
      rw [if_neg c1, h.1.2.1, if_pos c2]
      exact ok_bind (x_cutSlugs h.1 hW.1 (by omega)) (fun y hy => ok_some ⟨rfl, hy⟩)
    · unfold f_X10_clear f_X10_puts
      rw [c39, zrm hM (by omega), hm.1 hv, if_neg z10]
      have c6 : inR (39 : Int32) 205 = true := inR_of (vp_in_nI (n := 39) (by omega) (by omega))
      rw [if_pos c6, if_pos c6, Option.bind_some]
      have := hM.pu (k := 39) (v := j)
      rw [Nat.zero_add] at this
      refine ok_some ⟨?_, this, Agr.rf.up (by unfold Pgp; omega)⟩
      rfl
  · refine op_0 h (r := -1) ?_ ?_
    · unfold f_X9_clear
      by_cases c1 : a < 0
      · rw [if_pos c1]
      · rw [if_neg c1, h.1.2.1, if_neg (fun c2 => hv (hq.mp ⟨c1, c2⟩))]
    · unfold f_X10_clear f_X10_puts
      rw [c39, zrm h.2.1 (by omega), hm.2 hv, if_pos rfl]
      rfl
