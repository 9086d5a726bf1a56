/-! see, sheet, write, count -/
theorem see_ok {v : Int32} : (∃ p, p ≤ 7 ∧ v = if p = 0 then 9 else nI (p - 1)) ↔ (vp_in v 7 ∨ v = 9) := by
  constructor
  · rintro ⟨p, hp, e⟩
    by_cases h : p = 0
    · rw [if_pos h] at e; exact Or.inr e
    · rw [if_neg h] at e; rw [e]; exact Or.inl (vp_in_nI (by omega) (by omega))
  · rintro (h | h)
    · obtain ⟨j, hj, rfl⟩ := vin_nI h (by omega)
      exact ⟨j + 1, by omega, by rw [if_neg (by omega)]; rfl⟩
    · exact ⟨0, by omega, by rw [if_pos rfl]; exact h⟩
theorem op_see {σ : Sg} (h : Inv σ) (a d v : Int32) : Op (f_X9_see a d v σ) (f_X10_see a d v) := by
  obtain ⟨A, I, h⟩ := h
  obtain ⟨h1, h2, h3, h4, h5, h6, ⟨n, t1, t2, t3, t4⟩, h8, h9, h10, h11⟩ := id h
  have w4 := h4.1.2.2.2.1
  have xcn := x_can (a := a) (d := d) h1.2.2.1 (by omega)
  have mh := mHog (x := a) h3 (by omega)
  have mc := mCol (x := d)
  have m06 := mIn0 (x := v) (hi := 6) (n := 7) (by decide)
  have hjT : (vp_in v 7 ∨ v = 9) → (if v < 0 then if v = (9 : Int32) then (1 : Int32) else 0 else if v < (7 : Int32) then 1 else if v = (9 : Int32) then 1 else 0) = 1 := fun hw => by
    by_cases e9 : v = 9
    · subst e9; decide
    · obtain ⟨j, hj, rfl⟩ := vin_nI (hw.resolve_right e9) (by omega)
      rw [if_neg (nlt (by omega)), if_pos (show nI j < 7 from nI_lt (b := 7) hj (by omega))]
  have hjF : ¬ (vp_in v 7 ∨ v = 9) → (if v < 0 then if v = (9 : Int32) then (1 : Int32) else 0 else if v < (7 : Int32) then 1 else if v = (9 : Int32) then 1 else 0) = 0 := fun hw => by
    have e9 : ¬ v = 9 := fun z => hw (Or.inr z)
    by_cases c1 : v < 0
    · rw [if_pos c1, if_neg e9]
    · rw [if_neg c1, if_neg e9, if_neg]
      intro q
      refine hw (Or.inl (vin_iff.mpr ⟨?_, (lnle_iff (n := 7) (by omega)).mp q⟩))
      rw [lt0] at c1
      omega
  by_cases hv : vp_in a (A 41) ∧ vp_in d 8
  · obtain ⟨hva, hvd⟩ := id hv
    by_cases hw : vp_in v 7 ∨ v = 9
    · obtain ⟨p, hp, ev⟩ := see_ok.mpr hw
      have ep : (if v = 9 then (-4 : Int32) else v) = rI p := by
        by_cases z : p = 0
        · rw [if_pos z] at ev; rw [if_pos ev, z]; rfl
        · rw [if_neg z] at ev
          rw [ev, if_neg (show ¬ nI (p - 1) = 9 from nne (b := 9) (by omega) (by omega) (by omega))]
          unfold rI
          rw [if_neg z]
      have mm : ∀ s : Sg, f_X10_see a d v s = if f_X10_isHog a s = 0 then some (-1, s) else if f_X10_isColumn d = 0 then some (-1, s) else (if (s 75 22) = (6 : Int32) then
            some ((-3 : Int32), s)
          else
            if inR ((3 : Int32) * (s 75 22)) 18 then
            app (up2 s 82 ((3 : Int32) * (s 75 22)).toNatClampNeg a) fun (σ7 : Sg) =>
            app (((3 : Int32) * (σ7 75 22)) + (1 : Int32)) fun (v8 : Int32) =>
            if inR v8 18 then
            app (up2 σ7 82 v8.toNatClampNeg d) fun (σ10 : Sg) =>
            app (if v = (9 : Int32) then
              (-4 : Int32)
            else
              v) fun (j11 : Int32) =>
            app (((3 : Int32) * (σ10 75 22)) + (2 : Int32)) fun (v13 : Int32) =>
            if inR v13 18 then
            app (up2 σ10 82 v13.toNatClampNeg j11) fun (σ15 : Sg) =>
            app (up2 σ15 75 22 ((σ15 75 22) + (1 : Int32))) fun (σ16 : Sg) =>
            some ((σ16 75 22), σ16)
            else none
            else none
            else none) := fun s => by
        unfold f_X10_see
        by_cases z : vp_in v 7
        · rw [m06.1 z, if_neg z10]
        · rw [m06.2 z, if_pos rfl, if_pos (hw.resolve_left z)]
      by_cases h6' : n = 6
      · subst h6'
        refine op_0 h (r := -3) ?_ ?_
        · unfold f_X9_see f_X5_add
          rw [hjT hw]
          simp only [app]
          rw [xcn.1 hv, if_neg z10, if_neg z10, t2, if_neg (by decide)]
          rfl
        · rw [mm, mh.1 hva, mc.1 hvd, if_neg z10, if_neg z10, t3, if_pos (by decide)]
      · obtain ⟨i, hi, rfl⟩ := vin_nI hva (by omega)
        obtain ⟨c, hc, rfl⟩ := vin_nI hvd (by omega)
        have c5 : inR (nI n) 6 = true := inR_of (vp_in_nI (by omega) (by omega))
        have i1 : inR (nI (3 * n)) 18 = true := inR_of (vp_in_nI (by omega) (by omega))
        have i2 : inR (nI (3 * n + 1)) 18 = true := inR_of (vp_in_nI (by omega) (by omega))
        have i3 : inR (nI (3 * n + 2)) 18 = true := inR_of (vp_in_nI (by omega) (by omega))
        generalize hσ1 : up2 (up2 (up2 (up2 σ 31 n (nI i)) 32 n (nI c)) 33 n v) 30 3 (nI (n + 1)) = σ1
        have e75 : σ1 75 = σ 75 := by rw [← hσ1]; simp [up2]
        generalize hσ2 : up2 (up2 (up2 (up2 σ1 82 (3 * n) (nI i)) 82 (3 * n + 1) (nI c)) 82 (3 * n + 2) (rI p)) 75 22 (nI (n + 1)) = σ2
        have ha : Agr (fun c j => (c = 30 ∧ j = 3) ∨ c = 31 ∨ c = 32 ∨ c = 33 ∨ c = 82 ∨ (c = 75 ∧ j = 22)) σ σ2 := by
          rw [← hσ2, ← hσ1]
          exact (((((((Agr.rf.up (by omega)).up (by omega)).up (by omega)).up (by omega)).up (by omega)).up (by omega)).up (by omega)).up (by omega)
        refine ⟨nI (n + 1), σ1, σ2, ?_, ?_, A, I, h1.ag ha (fun c j z => by omega), h2.ag ha (fun j z => by omega), by rw [ha _ _ (by omega)]; exact h3, h4, fun k hk => (h5 k hk).ag ha (fun c j z => by omega), h6.ag ha (fun c j z => by omega), ⟨n + 1, by omega, ?_, ?_, fun j hj => ?_⟩, by rw [ha _ _ (by omega), ha _ _ (by omega)]; exact h8, by rw [ha _ _ (by omega), ha _ _ (by omega)]; exact h9, h10.ag ha (fun c j z => by omega), h11.ag ha (fun c j z => by omega)⟩
        · unfold f_X9_see f_X5_add
          rw [hjT hw]
          simp only [app]
          rw [xcn.1 hv, if_neg z10, if_neg z10, t2, if_pos (show nI n < 6 from nI_lt (b := 6) (by omega) (by omega)), if_pos c5, nI_clamp (by omega)]
          have q1 : up2 σ 31 n (nI i) 30 3 = nI n := by rw [up2_cell _ _ _ (by decide)]; exact t2
          have q2 : up2 (up2 σ 31 n (nI i)) 32 n (nI c) 30 3 = nI n := by rw [up2_cell _ _ _ (by decide)]; exact q1
          have q3 : up2 (up2 (up2 σ 31 n (nI i)) 32 n (nI c)) 33 n v 30 3 = nI n := by rw [up2_cell _ _ _ (by decide)]; exact q2
          rw [q1, if_pos c5, nI_clamp (by omega), q2, if_pos c5, nI_clamp (by omega), q3, nI_1, hσ1, Option.bind_some, ← hσ1, up2_same]
        · rw [mm, (mHog (x := nI i) (by rw [e75]; exact h3) (by omega)).1 hva, mc.1 hvd, if_neg z10, if_neg z10, e75, t3, if_neg (show ¬ nI n = 6 from nne (b := 6) h6' (by omega) (by omega)), ep]
          simp only [app]
          rw [show (3 : Int32) = nI 3 from rfl, pk_mul, if_pos i1, nI_clamp (by omega)]
          have q1 : up2 σ1 82 (3 * n) (nI i) 75 22 = nI n := by rw [up2_cell _ _ _ (by decide), e75]; exact t3
          rw [q1, pk_mul, nI_1, if_pos i2, nI_clamp (by omega)]
          have q2 : up2 (up2 σ1 82 (3 * n) (nI i)) 82 (3 * n + 1) (nI c) 75 22 = nI n := by rw [up2_cell _ _ _ (by decide)]; exact q1
          rw [q2, pk_mul, show nI (3 * n) + 2 = nI (3 * n + 2) from nI_add _ 2, if_pos i3, nI_clamp (by omega)]
          have q3 : up2 (up2 (up2 σ1 82 (3 * n) (nI i)) 82 (3 * n + 1) (nI c)) 82 (3 * n + 2) (rI p) 75 22 = nI n := by rw [up2_cell _ _ _ (by decide)]; exact q2
          rw [q3, nI_1, hσ2, ← hσ2, up2_same]
        · rw [← hσ2, ← hσ1]; simp [up2]
        · rw [← hσ2, ← hσ1]; simp [up2]
        · by_cases e : j = n
          · subst e
            refine ⟨i, c, p, hi, hc, hp, ?_, ?_, ?_, ?_, ?_, ?_⟩
            · rw [← hσ2, ← hσ1]; simp [up2]
            · rw [← hσ2, ← hσ1]; simp [up2]
            · rw [← hσ2, ← hσ1]; simp [up2]
            · rw [← hσ2, ← hσ1]; simp [up2]
            · rw [← hσ2, ← hσ1, ← ev]; simp [up2]
            · rw [← hσ2, ← hσ1]; simp [up2]
          · obtain ⟨h', c', p', u1, u2, u3, u4, u5, u6, u7, u8, u9⟩ := t4 j (by omega)
            have v1 : ¬ 3 * j = 3 * n + 1 := by omega
            have v2 : ¬ 3 * j = 3 * n + 2 := by omega
            have v3 : ¬ 3 * j = 3 * n := by omega
            have v4 : ¬ 3 * j + 1 = 3 * n := by omega
            have v5 : ¬ 3 * j + 1 = 3 * n + 1 := by omega
            have v6 : ¬ 3 * j + 1 = 3 * n + 2 := by omega
            have v7 : ¬ 3 * j + 2 = 3 * n := by omega
            have v8 : ¬ 3 * j + 2 = 3 * n + 1 := by omega
            have v9 : ¬ 3 * j + 2 = 3 * n + 2 := by omega
            have y1 : ∀ k, k ≠ 3 * n → k ≠ 3 * n + 1 → k ≠ 3 * n + 2 → σ2 82 k = σ 82 k := fun k z1 z2 z3 => by
              rw [← hσ2, up2_cell _ _ _ (by decide), up2_slot _ _ z3, up2_slot _ _ z2, up2_slot _ _ z1, ← hσ1]
              simp [up2]
            have y2 : σ2 31 j = σ 31 j ∧ σ2 32 j = σ 32 j ∧ σ2 33 j = σ 33 j := by
              rw [← hσ2, ← hσ1]; simp [up2, e]
            rw [y1 _ v3 v1 v2, y1 _ v4 v5 v6, y1 _ v7 v8 v9, y2.1, y2.2.1, y2.2.2]
            exact ⟨h', c', p', u1, u2, u3, u4, u5, u6, u7, u8, u9⟩
    · refine op_0 h (r := -1) ?_ ?_
      · unfold f_X9_see
        rw [hjF hw]
        simp only [app]
        rw [if_pos True.intro, ite_self]
      · unfold f_X10_see
        rw [mh.1 hva, mc.1 hvd, if_neg z10, if_neg z10, m06.2 (fun z => hw (Or.inl z)), if_pos rfl, if_neg (fun z => hw (Or.inr z))]
  · refine op_0 h (r := -1) ?_ ?_
    · unfold f_X9_see
      simp only [app]
      rw [xcn.2 hv, if_pos rfl]
    · unfold f_X10_see
      by_cases q1 : vp_in a (A 41)
      · rw [mc.2 (fun z => hv ⟨q1, z⟩), if_pos rfl, ite_self]
      · rw [mh.2 q1, if_pos rfl]
theorem shl8b (y : BitVec 32) : (y <<< 24).sshiftRight 24 = (y.setWidth 8).signExtend 32 := by
  ext i hi
  rw [BitVec.getElem_sshiftRight, BitVec.getElem_signExtend]
  by_cases h : i < 8
  · have h2 : 24 + i < 32 := by omega
    have h3 : ¬ 24 + i < 24 := by omega
    simp [h, BitVec.getLsbD_eq_getElem, hi]
    rw [dif_pos h2]
    simp [h3]
  · have h2 : ¬ 24 + i < 32 := by omega
    simp [h, h2, BitVec.msb_eq_getLsbD_last, BitVec.getMsbD]
theorem shl8 (x : Int32) : (x <<< ((24 : Int32) &&& 31)) >>> ((24 : Int32) &&& 31) = x.toInt8.toInt32 := by
  apply Int32.toBitVec_inj.mp
  rw [show (24 : Int32) &&& 31 = 24 by decide, Int32.toBitVec_shiftRight, Int32.toBitVec_shiftLeft, Int8.toBitVec_toInt32, Int32.toBitVec_toInt8, BitVec.shiftLeft_eq', BitVec.sshiftRight_eq', show ((24 : Int32).toBitVec.smod 32).toNat = 24 by decide +kernel]
  rw [shl8b, BitVec.signExtend_eq_setWidth_of_le x.toBitVec (v := 8) (by decide)]
theorem shl16b (y : BitVec 32) : (y <<< 16).sshiftRight 16 = (y.setWidth 16).signExtend 32 := by
  ext i hi
  rw [BitVec.getElem_sshiftRight, BitVec.getElem_signExtend]
  by_cases h : i < 16
  · have h2 : 16 + i < 32 := by omega
    have h3 : ¬ 16 + i < 16 := by omega
    simp [h, BitVec.getLsbD_eq_getElem, hi]
    rw [dif_pos h2]
    simp [h3]
  · have h2 : ¬ 16 + i < 32 := by omega
    simp [h, h2, BitVec.msb_eq_getLsbD_last, BitVec.getMsbD]
theorem shl16 (x : Int32) : (x <<< ((16 : Int32) &&& 31)) >>> ((16 : Int32) &&& 31) = x.toInt16.toInt32 := by
  apply Int32.toBitVec_inj.mp
  rw [show (16 : Int32) &&& 31 = 16 by decide, Int32.toBitVec_shiftRight, Int32.toBitVec_shiftLeft, Int16.toBitVec_toInt32, Int32.toBitVec_toInt16, BitVec.shiftLeft_eq', BitVec.sshiftRight_eq', show ((16 : Int32).toBitVec.smod 32).toNat = 16 by decide +kernel]
  rw [shl16b, BitVec.signExtend_eq_setWidth_of_le x.toBitVec (v := 16) (by decide)]
