/-! sheet, write, count -/
theorem iMin_r {n m : Nat} (h : n ≤ m) (hm : m < 2 ^ 31) : iMin (nI m) (nI n) = nI n := by
  unfold iMin
  by_cases z : n = m
  · subst z
    split <;> rfl
  · rw [if_pos (nI_lt (by omega) hm)]
theorem le40 {x : Int32} (h1 : x ≤ 40) (h2 : 0 ≤ x) : ∃ n, n ≤ 40 ∧ x = nI n := by
  have e : vp_in x 41 := vin_iff.mpr (by
    rw [Int32.le_iff_toInt_le] at h1 h2
    have q1 : (40 : Int32).toInt = 40 := by decide
    have q2 : (0 : Int32).toInt = 0 := by decide
    omega)
  obtain ⟨j, hj, e⟩ := vin_nI e (by omega)
  exact ⟨j, by omega, e⟩
theorem m_fill {k : Nat} {σ : Sg} (hk : k < 4) : Ok (wh (b_X10_sheet_56 (nI k)) 4096 ((0 : Int32), σ)) (fun e => (∀ j, j < 40 → e.2 87 (40 * k + j) = 0) ∧ Agr (fun c j => c = 87 ∧ 40 * k ≤ j ∧ j < 40 * k + 40) σ e.2) := by
  refine wh_0 (P := fun i s => s.1 = nI i ∧ (∀ j, j < i → s.2 87 (40 * k + j) = 0) ∧ Agr (fun c j => c = 87 ∧ 40 * k ≤ j ∧ j < 40 * k + 40) σ s.2) 40 (by omega) ⟨rfl, fun j hj => by omega, Agr.rf⟩ ?_
  rintro i ⟨x, s⟩ hi ⟨e1, e2, ha⟩
  dsimp at e1 e2 ha
  subst e1
  unfold b_X10_sheet_56
  dsimp +instances only
  by_cases hlt : i < 40
  · left
    refine ⟨hlt, ok_f (show ¬ nI 40 ≤ nI i from nnle hlt (by omega)) ?_⟩
    rw [show (40 : Int32) = nI 40 from rfl, pk_mul, nI_add, nI_clamp (by omega)]
    refine ok_in (vp_in_nI (by omega) (by omega)) (ok_some ⟨_, rfl, nI_1 _, fun j hj => ?_, ha.up (by omega)⟩)
    dsimp only
    by_cases e : j = i
    · subst e; rw [up2_same]
    · rw [up2_slot _ _ (by omega)]; exact e2 j (by omega)
  · right
    obtain rfl : i = 40 := by omega
    exact ok_t (by decide) (ok_some ⟨_, rfl, e2, ha⟩)
theorem op_sheet {σ : Sg} (h : Inv σ) (a b c : Int32) : Op (f_X9_sheet a b c σ) (f_X10_sheet a b c) := by
  obtain ⟨A, I, h⟩ := h
  obtain ⟨h1, h2, h3, h4, h5, h6, h7, h8, h9, h10, h11⟩ := id h
  have m3 := mIn0 (x := a) (hi := 3) (n := 4) (by decide)
  have m2 := mIn0 (x := b) (hi := 2) (n := 3) (by decide)
  by_cases ha : vp_in a 4
  · by_cases hb : vp_in b 3
    · by_cases hc : c ≤ 40
      · by_cases hc0 : 0 ≤ c
        · obtain ⟨k, hk, rfl⟩ := vin_nI ha (by omega)
          obtain ⟨l, hl, rfl⟩ := vin_nI hb (by omega)
          obtain ⟨n, hn, rfl⟩ := le40 hc hc0
          have c5 : inR (nI k) 4 = true := inR_of (vp_in_nI (by omega) (by omega))
          generalize hσ1 : f_X6_renew (67 + 2 * k) (nI l) (nI n) σ = σ1
          have hS1 : Agr (fun c j => c = 67 + 2 * k ∨ c = 67 + 2 * k + 1) σ σ1 := by
            rw [← hσ1]
            unfold f_X6_renew
            simp only [app]
            exact ((Agr.rf.up (by omega)).up (by omega)).row (by omega)
          obtain ⟨⟨x, σ3⟩, f1, f2, f3⟩ := m_fill (k := k) (σ := up2 (up2 σ1 85 k (nI l)) 86 k (nI n)) hk
          dsimp at f2 f3
          have hS : Agr (fun c j => (c = 67 + 2 * k ∨ c = 67 + 2 * k + 1) ∨ (c = 85 ∧ j = k) ∨ (c = 86 ∧ j = k) ∨ (c = 87 ∧ 40 * k ≤ j ∧ j < 40 * k + 40)) σ σ3 := (((hS1.mono (fun c j z => by omega)).up (by omega)).up (by omega)).tr (f3.mono (fun c j z => by omega))
          refine ⟨1, σ1, σ3, ?_, ?_, A, I, h1.ag hS (fun c j z => by omega), h2.ag hS (fun j z => by omega), by rw [hS _ _ (by omega)]; exact h3, h4, fun i hi => (h5 i hi).ag hS (fun c j z => by omega), h6.ag hS (fun c j z => by omega), h7.ag hS (fun c j z => by omega), by rw [hS _ _ (by omega), hS _ _ (by omega)]; exact h8, by rw [hS _ _ (by omega), hS _ _ (by omega)]; exact h9, fun i hi => ?_, h11.ag hS (fun c j z => by omega)⟩
          · unfold f_X9_sheet
            rw [xSheet.1 ha, xLane.1 hb, if_neg z10, if_neg z10, if_pos hc, if_pos hc0, if_pos c5, nI_clamp (by omega), hσ1]
          · unfold f_X10_sheet
            rw [m3.1 ha, m2.1 hb, if_neg z10, if_neg z10, if_pos hc, if_pos hc0, if_pos c5]
            simp only [app]
            rw [if_pos c5, nI_clamp (by omega), f1]
            rfl
          · by_cases e : i = k
            · subst e
              have z1 : ∀ c j, ¬ c = 87 → σ3 c j = up2 (up2 σ1 85 i (nI l)) 86 i (nI n) c j := fun c j hc => f3 c j (by omega)
              refine ⟨l + 1, n, by omega, hn, ?_, ?_, ?_, ?_, fun j hj => ?_⟩
              · rw [z1 _ _ (by omega), up2_cell _ _ _ (by omega), up2_cell _ _ _ (by omega), ← hσ1]
                unfold f_X6_renew
                simp [app, upR, up2]
              · rw [z1 _ _ (by omega), up2_cell _ _ _ (by omega), up2_same]
                rfl
              · rw [z1 _ _ (by omega), up2_cell _ _ _ (by omega), up2_cell _ _ _ (by omega), ← hσ1]
                unfold f_X6_renew
                rw [show (40 : Int32) = nI 40 from rfl, iMin_r hn (by omega), iMax_0n (by omega)]
                simp [app, upR, up2]
              · rw [z1 _ _ (by omega), up2_same]
              · rw [f2 j hj, z1 _ _ (by omega), up2_cell _ _ _ (by omega), up2_cell _ _ _ (by omega), ← hσ1]
                unfold f_X6_renew
                simp [app, upR, fillR, hj]
            · obtain ⟨l', n', q1, q2, q3, q4, q5, q6, q7⟩ := h10 i hi
              exact ⟨l', n', q1, q2, by rw [hS _ _ (by omega)]; exact q3, by rw [hS _ _ (by omega)]; exact q4, by rw [hS _ _ (by omega)]; exact q5, by rw [hS _ _ (by omega)]; exact q6, fun j hj => by rw [hS _ _ (by omega), hS _ _ (by omega)]; exact q7 j hj⟩
        · refine op_0 h (r := -14) ?_ ?_
          · unfold f_X9_sheet
            rw [xSheet.1 ha, xLane.1 hb, if_neg z10, if_neg z10, if_pos hc, if_neg hc0]
          · unfold f_X10_sheet
            rw [m3.1 ha, m2.1 hb, if_neg z10, if_neg z10, if_pos hc, if_neg hc0]
      · refine op_0 h (r := -1) ?_ ?_
        · unfold f_X9_sheet
          rw [xSheet.1 ha, xLane.1 hb, if_neg z10, if_neg z10, if_neg hc]
        · unfold f_X10_sheet
          rw [m3.1 ha, m2.1 hb, if_neg z10, if_neg z10, if_neg hc]
    · refine op_0 h (r := -1) ?_ ?_
      · unfold f_X9_sheet
        rw [xSheet.1 ha, xLane.2 hb, if_neg z10, if_pos rfl]
      · unfold f_X10_sheet
        rw [m3.1 ha, m2.2 hb, if_neg z10, if_pos rfl]
  · refine op_0 h (r := -1) ?_ ?_
    · unfold f_X9_sheet
      rw [xSheet.2 ha, if_pos rfl]
    · unfold f_X10_sheet
      rw [m3.2 ha, if_pos rfl]
/-- what a lane makes of a number -/
def lane (l : Nat) (v : Int32) : Int32 := if l = 1 then v.toInt8.toInt32 else if l = 2 then v.toInt16.toInt32 else v
theorem op_write {σ : Sg} (h : Inv σ) (a b v : Int32) : Op (f_X9_write a b v σ) (f_X10_write a b v) := by
  obtain ⟨A, I, h⟩ := h
  obtain ⟨h1, h2, h3, h4, h5, h6, h7, h8, h9, h10, h11⟩ := id h
  have m3 := mIn0 (x := a) (hi := 3) (n := 4) (by decide)
  by_cases ha : vp_in a 4
  · obtain ⟨k, hk, rfl⟩ := vin_nI ha (by omega)
    have c5 : inR (nI k) 4 = true := inR_of (vp_in_nI (by omega) (by omega))
    obtain ⟨l, n, q1, q2, q3, q4, q5, q6, q7⟩ := h10 k hk
    have mn : (vp_in b n → f_X10_in b.toInt64 0 ((nI n - 1).toInt64) = 1) ∧ (¬ vp_in b n → f_X10_in b.toInt64 0 ((nI n - 1).toInt64) = 0) := mIn0 (pred_toInt (by omega))
    by_cases hl : l = 0
    · subst hl
      refine op_0 h (r := -11) ?_ ?_
      · unfold f_X9_write f_X6_refusal
        rw [if_pos rfl] at q3
        rw [xSheet.1 ha, if_neg z10, if_pos c5, nI_clamp (by omega), q3, if_pos rfl]
        rfl
      · unfold f_X10_write
        rw [m3.1 ha, if_neg z10, if_pos c5, nI_clamp (by omega), q4, if_pos rI_0]
    · rw [if_neg hl] at q3
      have e4 : ¬ σ 85 k = -4 := by rw [q4]; exact fun z => hl ((rI_none (by omega)).mp z)
      have ex : f_X9_write (nI k) b v σ = app (if b < 0 then (2 : Int32) else if b < nI n then 0 else 2) fun v3 => if v3 = 0 then (f_X6_store (67 + 2 * k) b v σ).bind fun (y5 : Sg) => some ((1 : Int32), y5) else some (((-10 : Int32) - v3), σ) := by
        unfold f_X9_write f_X6_refusal
        rw [xSheet.1 ha, if_neg z10, if_pos c5, nI_clamp (by omega), q3, if_neg (nneg1 (by omega)), if_pos rfl, q5]
      by_cases hb : vp_in b n
      · obtain ⟨j, hj, rfl⟩ := vin_nI hb (by omega)
        have d1 : ¬ nI j < 0 := nlt (by omega)
        have d2 : nI j < nI n := nI_lt hj (by omega)
        have i1 : inR (nI j) 40 = true := inR_of (vp_in_nI (by omega) (by omega))
        have i2 : inR (nI (40 * k + j)) 160 = true := inR_of (vp_in_nI (by omega) (by omega))
        have hS : Agr (fun c i => (c = 67 + 2 * k + 1 ∧ i = j) ∨ (c = 87 ∧ i = 40 * k + j)) σ (up2 (up2 σ (67 + 2 * k + 1) j (lane l v)) 87 (40 * k + j) (lane l v)) := (Agr.rf.up (by omega)).up (by omega)
        refine ⟨1, up2 σ (67 + 2 * k + 1) j (lane l v), up2 (up2 σ (67 + 2 * k + 1) j (lane l v)) 87 (40 * k + j) (lane l v), ?_, ?_, A, I, h1.ag hS (fun c j z => by omega), h2.ag hS (fun j z => by omega), by rw [hS _ _ (by omega)]; exact h3, h4, fun i hi => (h5 i hi).ag hS (fun c j z => by omega), h6.ag hS (fun c j z => by omega), h7.ag hS (fun c j z => by omega), by rw [hS _ _ (by omega), hS _ _ (by omega)]; exact h8, by rw [hS _ _ (by omega), hS _ _ (by omega)]; exact h9, fun i hi => ?_, h11.ag hS (fun c j z => by omega)⟩
        · rw [ex, if_neg d1, if_pos d2]
          simp only [app]
          rw [if_pos True.intro]
          have es : f_X6_store (67 + 2 * k) (nI j) v σ = some (up2 σ (67 + 2 * k + 1) j (lane l v)) := by
            unfold f_X6_store
            rw [if_neg d1, q5, if_pos d2, q3]
            simp only [app]
            rw [if_pos i1, nI_clamp (by omega)]
            unfold lane
            rcases (show l = 1 ∨ l = 2 ∨ l = 3 by omega) with rfl | rfl | rfl
            · rfl
            · rw [show nI (2 - 1) = 1 from rfl, if_neg (show ¬ (1 : Int32) = 0 by decide), if_pos rfl, if_pos i1]
              rfl
            · rw [show nI (3 - 1) = 2 from rfl, if_neg (show ¬ (2 : Int32) = 0 by decide), if_neg (show ¬ (2 : Int32) = 1 by decide), if_pos i1]
              rfl
          rw [es]
          rfl
        · have e85 : up2 σ (67 + 2 * k + 1) j (lane l v) 85 k = rI l := by rw [up2_cell _ _ _ (by omega)]; exact q4
          have e86 : up2 σ (67 + 2 * k + 1) j (lane l v) 86 k = nI n := by rw [up2_cell _ _ _ (by omega)]; exact q6
          have ej : (if rI l = 0 then some v.toInt8.toInt32 else if rI l = 1 then some v.toInt16.toInt32 else some v) = some (lane l v) := by
            unfold lane
            rcases (show l = 1 ∨ l = 2 ∨ l = 3 by omega) with rfl | rfl | rfl
            · rfl
            · rfl
            · rfl
          unfold f_X10_write
          rw [m3.1 ha, if_neg z10, if_pos c5, nI_clamp (by omega), e85, if_neg (fun z => hl ((rI_none (by omega)).mp z)), if_pos c5, e86, mn.1 hb, if_neg z10, if_pos c5, if_pos c5, shl8, shl16, show (40 : Int32) = nI 40 from rfl, pk_mul, nI_add, ej, Option.bind_some, if_pos i2, nI_clamp (by omega)]
        · obtain ⟨l', n', u1, u2, u3, u4, u5, u6, u7⟩ := h10 i hi
          refine ⟨l', n', u1, u2, by rw [hS _ _ (by omega)]; exact u3, by rw [hS _ _ (by omega)]; exact u4, by rw [hS _ _ (by omega)]; exact u5, by rw [hS _ _ (by omega)]; exact u6, fun i' hi' => ?_⟩
          by_cases e : i = k ∧ i' = j
          · obtain ⟨rfl, rfl⟩ := e
            rw [up2_cell _ _ _ (by omega), up2_same, up2_same]
          · rw [hS _ _ (by omega), hS _ _ (by omega)]
            exact u7 i' hi'
      · refine op_0 h (r := -12) ?_ ?_
        · rw [ex]
          by_cases d1 : b < 0
          · rw [if_pos d1]; rfl
          · rw [if_neg d1, if_neg (show ¬ b < nI n from fun z => hb (vin_iff.mpr ⟨by rw [lt0] at d1; omega, (lnle_iff (by omega)).mp z⟩))]; rfl
        · unfold f_X10_write
          rw [m3.1 ha, if_neg z10, if_pos c5, nI_clamp (by omega), if_neg e4, if_pos c5, q6, mn.2 hb, if_pos rfl]
  · refine op_0 h (r := -1) ?_ ?_
    · unfold f_X9_write
      rw [xSheet.2 ha, if_pos rfl]
    · unfold f_X10_write
      rw [m3.2 ha, if_pos rfl]
