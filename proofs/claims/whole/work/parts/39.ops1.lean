/-! calls that change one thing -/
theorem inN {x : Int32} {n : Nat} (hn : n < 2 ^ 31) : (vp_in x (n + 1) → f_X10_in x.toInt64 0 (nI n).toInt64 = 1) ∧ (¬ vp_in x (n + 1) → f_X10_in x.toInt64 0 (nI n).toInt64 = 0) := mIn0 (by rw [cl_toInt hn]; omega)
theorem z10 : ¬ ((1 : Int32) = 0) := by decide
theorem Seen.le {n : Nat} {σ : Sg} (h : Seen n σ) : ∃ m, m ≤ 6 ∧ σ 30 3 = nI m ∧ σ 75 22 = nI m := by
  obtain ⟨m, a, b, c, -⟩ := h
  exact ⟨m, a, b, c⟩
theorem op_end {σ : Sg} (h : Inv σ) (a : Int32) : Op (some (f_X9_end a σ)) (fun s => some (f_X10_end a s)) := by
  obtain ⟨A, I, h⟩ := h
  obtain ⟨h1, h2, h3, h4, h5, ⟨n, t1, t2, t3, t4⟩, h7, h8, h9, h10, h11⟩ := id h
  have hm := inN (x := a) (n := n) (by omega)
  have hq := pq0 (x := a) (n := n) (by omega)
  by_cases hv : vp_in a (n + 1)
  · obtain ⟨c1, c2⟩ := hq.mpr hv
    obtain ⟨j, hj, rfl⟩ := vin_nI hv (by omega)
    refine ⟨nI n, up2 σ 54 1 (nI j), up2 (up2 σ 54 1 (nI j)) 75 6 (nI j), ?_, ?_, A, I, ?_⟩
    · unfold f_X9_end
      rw [if_neg c1, t2, if_pos c2]
    · unfold f_X10_end
      dsimp +instances only
      have e6 : up2 σ 54 1 (nI j) 75 6 = nI n := by rw [up2_cell _ _ _ (by decide)]; exact t3
      rw [e6, hm.1 hv, if_neg z10]
    · have ha : Agr (fun c i => (c = 54 ∧ i = 1) ∨ (c = 75 ∧ i = 6)) σ (up2 (up2 σ 54 1 (nI j)) 75 6 (nI j)) := (Agr.rf.up (by omega)).up (by omega)
      refine ⟨h1.ag ha (fun c j z => by omega), h2.ag ha (fun j z => by omega), by rw [ha _ _ (by omega)]; exact h3, h4, fun k hk => (h5 k hk).ag ha (fun c j z => by omega), ⟨j, by omega, by simp [up2], by simp [up2], fun i hi => ?_⟩, h7.ag ha (fun c j z => by omega), by rw [ha _ _ (by omega), ha _ _ (by omega)]; exact h8, by rw [ha _ _ (by omega), ha _ _ (by omega)]; exact h9, h10.ag ha (fun c j z => by omega), h11.ag ha (fun c j z => by omega)⟩
      rw [ha _ _ (by omega), ha _ _ (by omega)]
      exact t4 i (by omega)
  · refine op_0 h (r := -1) ?_ ?_
    · unfold f_X9_end
      by_cases c1 : a < 0
      · rw [if_pos c1]
      · rw [if_neg c1, t2, if_neg (fun c2 => hv (hq.mp ⟨c1, c2⟩))]
    · unfold f_X10_end
      rw [t3, hm.2 hv, if_pos rfl]
theorem op_forget {σ : Sg} (h : Inv σ) (a : Int32) : Op (some (f_X9_forget a σ)) (fun s => some (f_X10_forget a s)) := by
  obtain ⟨A, I, h⟩ := h
  obtain ⟨h1, h2, h3, h4, h5, h6, ⟨n, t1, t2, t3, t4⟩, h8, h9, h10, h11⟩ := id h
  have hm := inN (x := a) (n := n) (by omega)
  have hq := pq0 (x := a) (n := n) (by omega)
  by_cases hv : vp_in a (n + 1)
  · obtain ⟨c1, c2⟩ := hq.mpr hv
    obtain ⟨j, hj, rfl⟩ := vin_nI hv (by omega)
    refine ⟨nI n, up2 σ 30 3 (nI j), up2 (up2 σ 30 3 (nI j)) 75 22 (nI j), ?_, ?_, A, I, ?_⟩
    · unfold f_X9_forget
      rw [if_neg c1, t2, if_pos c2]
    · unfold f_X10_forget
      dsimp +instances only
      have e6 : up2 σ 30 3 (nI j) 75 22 = nI n := by rw [up2_cell _ _ _ (by decide)]; exact t3
      rw [e6, hm.1 hv, if_neg z10]
    · have ha : Agr (fun c i => (c = 30 ∧ i = 3) ∨ (c = 75 ∧ i = 22)) σ (up2 (up2 σ 30 3 (nI j)) 75 22 (nI j)) := (Agr.rf.up (by omega)).up (by omega)
      refine ⟨h1.ag ha (fun c j z => by omega), h2.ag ha (fun j z => by omega), by rw [ha _ _ (by omega)]; exact h3, h4, fun k hk => (h5 k hk).ag ha (fun c j z => by omega), h6.ag ha (fun c j z => by omega), ⟨j, by omega, by simp [up2], by simp [up2], fun i hi => ?_⟩, by rw [ha _ _ (by omega), ha _ _ (by omega)]; exact h8, by rw [ha _ _ (by omega), ha _ _ (by omega)]; exact h9, h10.ag ha (fun c j z => by omega), h11.ag ha (fun c j z => by omega)⟩
      rw [ha 31 _ (by omega), ha 32 _ (by omega), ha 33 _ (by omega), ha 82 _ (by omega), ha 82 _ (by omega), ha 82 _ (by omega)]
      exact t4 i (by omega)
  · refine op_0 h (r := -1) ?_ ?_
    · unfold f_X9_forget
      by_cases c1 : a < 0
      · rw [if_pos c1]
      · rw [if_neg c1, t2, if_neg (fun c2 => hv (hq.mp ⟨c1, c2⟩))]
    · unfold f_X10_forget
      rw [t3, hm.2 hv, if_pos rfl]
theorem op_fault {σ : Sg} (h : Inv σ) : f_X9_fault σ = f_X10_fault σ := by
  obtain ⟨A, I, h⟩ := h
  exact h.2.2.2.2.2.2.2.1
theorem op_torn {σ : Sg} (h : Inv σ) : f_X9_torn σ = f_X10_torn σ := by
  obtain ⟨A, I, h⟩ := h
  exact h.2.2.2.2.2.2.2.2.1
/-- the page changes, as both tell it -/
theorem InvA.page {A B : Pg} {I : Nat → Pg} {σ σ' : Sg} {S : Nat → Nat → Prop} (h : InvA A I σ) (ha : Agr S σ σ') (hS : ∀ c j, S c j → (1 ≤ c ∧ c ≤ 9) ∨ (c = 76 ∧ j < 41) ∨ scX c ∨ (c = 75 ∧ 16 ≤ j ∧ j ≤ 19) ∨ (c = 76 ∧ 123 ≤ j) ∨ c = 77 ∨ c = 81 ∨ c = 83) (g1 : RX 1 B σ') (g2 : RM 0 B σ') (e : B 41 = A 41) (g4 : WF B) : InvA B I σ' := by
  obtain ⟨h1, h2, h3, h4, h5, h6, h7, h8, h9, h10, h11⟩ := id h
  unfold scX at hS
  refine ⟨g1, g2, by rw [ha _ _ (fun z => by have := hS _ _ z; omega), e]; exact h3, g4, fun k hk => ?_, h6.ag ha (fun c j z => by have := hS _ _ z; omega), by rw [e]; exact h7.ag ha (fun c j z => by have := hS _ _ z; omega), ?_, ?_, h10.ag ha (fun c j z => by have := hS _ _ z; omega), h11.ag ha (fun c j z => by have := hS _ _ z; omega)⟩
  · have := (h5 k hk).ag ha (fun c j z => by have := hS _ _ z; omega)
    unfold Img at this ⊢
    rw [e]
    exact this
  · rw [ha _ _ (fun z => by have := hS _ _ z; omega), ha _ _ (fun z => by have := hS _ _ z; omega)]; exact h8
  · rw [ha _ _ (fun z => by have := hS _ _ z; omega), ha _ _ (fun z => by have := hS _ _ z; omega)]; exact h9
/-- slots of the page -/
def Pgs (c j : Nat) : Prop := (1 ≤ c ∧ c ≤ 9) ∨ (c = 76 ∧ j < 41) ∨ scX c ∨ (c = 75 ∧ 16 ≤ j ∧ j ≤ 19) ∨ (c = 76 ∧ 123 ≤ j) ∨ c = 77 ∨ c = 81 ∨ c = 83
theorem RM.pu {A : Pg} {p k v : Nat} {σ : Sg} (h : RM p A σ) : RM p (pu A k v) (up2 σ 76 (p + k) (nI v)) := fun j hj => by
  by_cases e : j = k
  · subst e; rw [up2_same, pu_s]
  · rw [up2_slot _ _ (by omega), pu_n _ _ e]; exact h j hj
theorem WF.of {A : Pg} (h : WFs A) (hw : ∀ i, i < A 40 → A (26 + i) < A 41) : WF A := ⟨h, hw⟩
theorem op_rag {σ : Sg} (h : Inv σ) (a r : Int32) : Op (f_X9_rag a r σ) (f_X10_rag a r) := by
  obtain ⟨A, I, h⟩ := h
  obtain ⟨h1, h2, h3, h4, h5, h6, h7, h8, h9, h10, h11⟩ := id h
  have w := h4.1
  have w1 := h4.1.1
  have xp := xPeg (x := a) h1.1 (by omega)
  have mp := mPeg (x := a) (zrm h2 (by omega) : σ 76 38 = nI (A 38)) (by omega)
  by_cases hv : vp_in a (A 38)
  · by_cases hr : vp_in r 4
    · obtain ⟨i, hi, rfl⟩ := vin_nI hv (by omega)
      obtain ⟨k, hk, rfl⟩ := vin_nI hr (by omega)
      have c5 : inR (nI i) 7 = true := inR_of (vp_in_nI (by omega) (by omega))
      have c6 : inR (nI (7 + i)) 205 = true := inR_of (vp_in_nI (by omega) (by omega))
      refine ⟨nI (A (7 + i)), up2 σ 3 i (nI k), up2 (up2 σ 3 i (nI k)) 76 (7 + i) (nI k), ?_, ?_, pu A (7 + i) k, I, ?_⟩
      · unfold f_X9_rag
        rw [xp.1 hv, xRag.1 hr, if_neg z10, if_neg z10, if_pos c5, if_pos c5, nI_clamp (by omega)]
        rw [(h1.2.2.2.2.1 i hi).2]
      · unfold f_X10_rag f_X10_puts
        have e38 : up2 σ 3 i (nI k) 76 38 = nI (A 38) := by rw [up2_cell _ _ _ (by decide)]; exact zrm h2 (by omega)
        rw [(mPeg e38 (by omega)).1 hv, mRag.1 hr, if_neg z10, if_neg z10]
        simp only [app]
        rw [if_neg z10, show (7 : Int32) = nI 7 from rfl, nI_add, if_pos c6, if_pos c6, nI_clamp (by omega)]
        simp only [Option.bind_some]
        rw [up2_cell σ _ _ (show (76 : Nat) ≠ 3 by decide), zrm h2 (by omega)]
      · have ha : Agr Pgs σ (up2 (up2 σ 3 i (nI k)) 76 (7 + i) (nI k)) := (Agr.rf.up (by unfold Pgs; omega)).up (by unfold Pgs; omega)
        have eo : ∀ j, j ≠ 7 + i → pu A (7 + i) k j = A j := fun j hj => pu_n _ _ hj
        have eg : ∀ x, gOf A x = gOf (pu A (7 + i) k) x := fun x => by
          unfold gOf
          rw [eo 39 (by omega), eo 38 (by omega)]
          have q1 : fnd (A 38) (pu A (7 + i) k) x = fnd (A 38) A x := by
            rcases fnd_spec (A 38) A x with ⟨a1, a2, a3⟩ | ⟨a1, a2⟩
            · exact fnd_at a1 (by rw [eo _ (by omega)]; exact a2) (fun j hj => by rw [eo _ (by omega)]; exact a3 j hj)
            · rw [a1]; exact fnd_no (fun j hj => by rw [eo _ (by omega)]; exact a2 j hj)
          have q2 : (fun i_1 => pu A (7 + i) k (14 + i_1)) = fun i_1 => A (14 + i_1) := funext fun j => eo _ (by omega)
          rw [q1, q2]
        refine h.page ha (fun c j z => z) ?_ ?_ (eo _ (by omega)) ⟨?_, ?_⟩
        · obtain ⟨g1, g2, g3, g4, g5, g6, g7, g8, g9⟩ := h1
          refine ⟨by rw [eo _ (by omega)]; simp [up2, g1], by rw [eo _ (by omega)]; simp [up2, g2], by rw [eo _ (by omega)]; simp [up2, g3], by rw [eo _ (by omega)]; simp [up2, g4], fun j hj => ?_, fun j hj => ?_, fun j hj => ?_, fun j hj => ?_, fun x hx => ?_⟩
          · rw [eo _ (by omega)] at hj
            rw [eo j (by omega)]
            by_cases e : j = i
            · subst e; rw [pu_s]; simp [up2]; exact (g5 j hj).1
            · rw [eo _ (by omega)]; simp [up2, e]; exact g5 j hj
          · rw [eo _ (by omega)] at hj; rw [eo _ (by omega)]; simp [up2]; exact g6 j hj
          · rw [eo _ (by omega)] at hj; rw [eo _ (by omega), eo _ (by omega)]; simp [up2]; exact g7 j hj
          · rw [eo _ (by omega)] at hj; rw [eo _ (by omega), eo _ (by omega)]; simp [up2]; exact g8 j hj
          · rw [← eg]; simp [up2]; exact g9 x hx
        · have := (h2.keep (σ' := up2 σ 3 i (nI k)) (up2_cell _ _ _ (by decide))).pu (k := 7 + i) (v := k)
          rwa [Nat.zero_add] at this
        · obtain ⟨w1, w2, w3, w4, w5, w6, w7, w8, w9, w10, w11⟩ := w
          refine ⟨by rw [eo _ (by omega)]; exact w1, by rw [eo _ (by omega)]; exact w2, by rw [eo _ (by omega)]; exact w3, by rw [eo _ (by omega)]; exact w4, fun j hj => ?_, fun j hj => ?_, fun j hj => ?_, fun j hj => ?_, fun j l hj hl => ?_, fun j l hj hl => ?_, fun j l hj hl => ?_⟩
          · rw [eo _ (by omega)] at hj
            rw [eo j (by omega)]
            by_cases e : j = i
            · subst e; rw [pu_s]; exact ⟨(w5 j hj).1, hk⟩
            · rw [eo _ (by omega)]; exact w5 j hj
          · rw [eo _ (by omega)] at hj; rw [eo _ (by omega)]; exact w6 j hj
          · rw [eo _ (by omega)] at hj; rw [eo _ (by omega), eo _ (by omega)]; exact w7 j hj
          · rw [eo _ (by omega)] at hj; rw [eo _ (by omega), eo _ (by omega)]; exact w8 j hj
          · rw [eo _ (by omega)] at hj hl; rw [eo j (by omega), eo l (by omega)]; exact w9 j l hj hl
          · rw [eo _ (by omega)] at hj hl; rw [eo j (by omega), eo _ (by omega)]; exact w10 j l hj hl
          · rw [eo _ (by omega)] at hj hl; rw [eo _ (by omega), eo _ (by omega)]; exact w11 j l hj hl
        · intro j hj
          rw [eo _ (by omega)] at hj; rw [eo _ (by omega), eo _ (by omega)]; exact h4.2 j hj
    · refine op_0 h (r := -1) ?_ ?_
      · unfold f_X9_rag
        rw [xp.1 hv, xRag.2 hr, if_neg z10, if_pos rfl]
      · unfold f_X10_rag f_X10_puts
        rw [mp.1 hv, mRag.2 hr, if_neg z10, if_pos rfl]
        rfl
  · refine op_0 h (r := -1) ?_ ?_
    · unfold f_X9_rag
      rw [xp.2 hv, if_pos rfl]
    · unfold f_X10_rag f_X10_puts
      rw [mp.2 hv, if_pos rfl]
      rfl
