-- the class's run
def RunEnd (b : Nat) (g rg : Nat → Nat) (k sp c : Nat) (σ σ' : Sg) : Prop :=
  Fr (fun q => q = b + 10 ∨ q = b + 11) σ σ' ∧ σ' (b + 10) 0 = rI (go g k no 10 0 c sp 0).1 ∧ σ' (b + 10) 1 = (if (go g k no 10 0 c sp 0).1 = 0 then -4 else nI (rg ((go g k no 10 0 c sp 0).1 - 1))) ∧ σ' (b + 10) 2 = nI (go g k no 10 0 c sp 0).2.1 ∧ σ' (b + 10) 3 = nI (go g k no 10 0 c sp 0).2.2.1 ∧ σ' (b + 10) 4 = nI (go g k no 10 0 c sp 0).2.2.2 ∧ ∀ j, j ≤ (go g k no 10 0 c sp 0).2.1 → j < 10 → σ' (b + 11) j = nI (pth g k no 10 0 c sp j)
def FolInv (b : Nat) (g : Nat → Nat) (k : Nat) (R : Nat × Nat × Nat × Nat) (P : Nat → Nat) (σ : Sg) (r : Nat) (s : Int32 × Int32 × Int32 × Sg) : Prop :=
  ∃ c sp m : Nat, c < 8 ∧ sp < 10 ∧ s.1 = nI c ∧ s.2.1 = nI sp ∧ s.2.2.1 = nI r ∧ Fr (fun q => q = b + 10 ∨ q = b + 11) σ s.2.2.2 ∧ s.2.2.2 (b + 10) 0 = -4 ∧ s.2.2.2 (b + 10) 1 = -4 ∧ s.2.2.2 (b + 10) 3 = nI m ∧ s.2.2.2 (b + 10) 4 = 0 ∧
  go g k no (10 - r) r c sp m = R ∧ (∀ j, r ≤ j → pth g k no (10 - r) r c sp j = P j) ∧ ∀ j, j < r → s.2.2.2 (b + 11) j = nI (P j)
def FolEnd (b : Nat) (rg : Nat → Nat) (R : Nat × Nat × Nat × Nat) (P : Nat → Nat) (σ σ' : Sg) : Prop :=
  Fr (fun q => q = b + 10 ∨ q = b + 11) σ σ' ∧ σ' (b + 10) 0 = rI R.1 ∧ σ' (b + 10) 1 = (if R.1 = 0 then -4 else nI (rg (R.1 - 1))) ∧ σ' (b + 10) 2 = nI R.2.1 ∧ σ' (b + 10) 3 = nI R.2.2.1 ∧ σ' (b + 10) 4 = nI R.2.2.2 ∧ ∀ j, j ≤ R.2.1 → j < 10 → σ' (b + 11) j = nI (P j)
theorem x_standing {b : Nat} {σ : Sg} {x : Nat} (hx : x < 100) : f_X7_standingAt b (nI x) σ = some (σ (b + 8) x) := by
  unfold f_X7_standingAt
  rw [if_neg (nlt (by omega)), if_neg (show ¬ (100 : Int32) ≤ nI x from nnle (b := 100) hx (by omega)), if_pos (inR_of (vp_in_nI hx (by omega))), nI_clamp (by omega)]
theorem x_isPeg {b : Nat} {σ : Sg} {n i : Nat} (hn : σ b 2 = nI n) (hl : n < 2 ^ 31) (hi : i < n) : f_X7_isPeg b (nI i) σ = 1 := by
  unfold f_X7_isPeg
  rw [if_neg (nlt (by omega)), hn, if_neg (nnle hi hl)]
theorem x_isPeg1 {b : Nat} {σ : Sg} : f_X7_isPeg b (-1) σ = 0 := by
  unfold f_X7_isPeg
  rw [if_pos (by decide)]
theorem fol_step {b : Nat} {σ : Sg} {g rg : Nat → Nat} {np k r : Nat} {R : Nat × Nat × Nat × Nat} {P : Nat → Nat} {s : Int32 × Int32 × Int32 × Sg} (hg : ∀ x, x < 100 → σ (b + 8) x = gI (g x)) (hn : σ b 2 = nI np) (hgn : ∀ x, x < 100 → g x < np + 2) (hnp : np ≤ 7) (hr : ∀ i, i < np → σ (b + 2) i = nI (rg i)) (hk : k < 4) (hlt : r < 10) (hI : FolInv b g k R P σ r s) :
    Ok (b_X1_follow_14 b b (nI k) s) (fun y => (∃ s', y = .inl s' ∧ FolInv b g k R P σ (r + 1) s') ∨ ∃ σ', y = .inr (.inr σ') ∧ FolEnd b rg R P σ σ') := by
  obtain ⟨c, sp, m, hc, hs, e1, e2, e3, hF, f0, f1, f3, f4, hR, hP, hQ⟩ := hI
  unfold b_X1_follow_14
  rw [e1, e2, e3]
  refine ok_f (show ¬ nI 10 ≤ nI r from nnle hlt (by omega)) ?_
  refine ok_app ?_
  refine ok_in (vp_in_nI hlt (by omega)) ?_
  refine ok_app ?_
  have hx : 10 * r + c < 100 := by omega
  have eC : (10 : Int32) * nI r + nI c = nI (10 * r + c) := by
    rw [show (10 : Int32) = nI 10 from rfl, pk_mul, nI_add]
  rw [eC, nI_clamp (by omega)]
  obtain ⟨n, hn10⟩ : ∃ n, 10 - r = n + 1 := ⟨9 - r, by omega⟩
  have hn9 : 10 - (r + 1) = n := by omega
  generalize hσ2 : up2 (up2 s.2.2.2 (b + 10) 2 (nI r)) (b + 11) r (nI c) = σ2
  have hF2 : Fr (fun q => q = b + 10 ∨ q = b + 11) σ σ2 := by
    rw [← hσ2]
    exact (hF.up (Or.inl rfl)).up (Or.inr rfl)
  have g0 : σ2 (b + 10) 0 = -4 := by rw [← hσ2]; simp [up2, f0]
  have g1 : σ2 (b + 10) 1 = -4 := by rw [← hσ2]; simp [up2, f1]
  have g2 : σ2 (b + 10) 2 = nI r := by rw [← hσ2]; simp [up2]
  have g3 : σ2 (b + 10) 3 = nI m := by rw [← hσ2]; simp [up2, f3]
  have g4 : σ2 (b + 10) 4 = 0 := by rw [← hσ2]; simp [up2, f4]
  have hPr : P r = c := by
    rw [← hP r (Nat.le_refl r), hn10]
    simp [pth]
  have hQ2 : ∀ j, j < r + 1 → σ2 (b + 11) j = nI (P j) := by
    intro j hj
    rw [← hσ2]
    by_cases hjr : j = r
    · subst hjr
      simp [up2, hPr]
    · simp [up2, hjr]
      exact hQ j (by omega)
  refine ok_be (x_standing hx) ?_
  have h8 : σ2 (b + 8) = σ (b + 8) := hF2 _ (by omega)
  have hb2 : σ2 b = σ b := hF2 _ (by omega)
  have hb3 : σ2 (b + 2) = σ (b + 2) := hF2 _ (by omega)
  rw [h8, hg _ hx]
  have hgl := hgn _ hx
  rw [hn10] at hR
  have hPs : ∀ j, r + 1 ≤ j → pth g k no (n + 1) r c sp j = P j := fun j hj => by
    rw [← hn10]
    exact hP j (by omega)
  by_cases v1 : g (10 * r + c) = 1
  · -- a slug
    rw [v1]
    refine ok_t (by decide) ?_
    have hR' : R = (0, r, m, 1) := by rw [← hR]; simp [go, v1]
    refine ok_some (Or.inr ⟨_, rfl, hF2.up (Or.inl rfl), ?_⟩)
    rw [hR']
    refine ⟨by simp [up2, g0, rI], by simp [up2, g1], by simp [up2, g2], by simp [up2, g3], by simp [up2]; rfl, fun j h1 h2 => ?_⟩
    rw [up2_cell _ _ _ (by omega)]
    exact hQ2 j (by simp at h1; omega)
  · by_cases v0 : g (10 * r + c) = 0
    · rw [v0]
      refine ok_f (by decide) ?_
      refine ok_t (show f_X7_isPeg b (gI 0) σ2 = 0 from x_isPeg1) ?_
      refine ok_some (Or.inl ⟨_, rfl, c, sp, m, hc, hs, rfl, rfl, nI_1 r, hF2, g0, g1, g3, g4, ?_, ?_, hQ2⟩)
      · rw [hn9, ← hR]
        simp [go, v0]
      · intro j hj
        rw [hn9, ← hPs j hj]
        simp [pth, v0]
        intro h
        omega
    · obtain ⟨i, hi⟩ : ∃ i, g (10 * r + c) = i + 2 := ⟨g (10 * r + c) - 2, by omega⟩
      have hin : i < np := by omega
      have eg : gI (g (10 * r + c)) = nI i := by unfold gI; rw [if_neg v0, if_neg v1, hi]; rfl
      rw [eg]
      refine ok_f (nneg2 (by omega)) ?_
      refine ok_f (by rw [x_isPeg (by rw [hb2]; exact hn) (by omega) hin]; decide) ?_
      refine ok_app ?_
      rw [xloss k hk]
      obtain ⟨q1, q2⟩ := sp_sub sp hs k hk
      by_cases hsp : lose k < sp
      · rw [q1 hsp]
        refine ok_t (show nI 0 < nI (sp - lose k) from nI_lt (by omega) (by omega)) ?_
        refine ok_app ?_
        rw [xturn k hk r hlt c hc, g3, nI_1 m]
        refine ok_some (Or.inl ⟨_, rfl, tcol k r c false, sp - lose k, m + 1, tcol_lt _ _ _ _, by omega, rfl, rfl, nI_1 r, hF2.up (Or.inl rfl), by simp [up2, g0], by simp [up2, g1], by simp [up2], by simp [up2, g4], ?_, ?_, ?_⟩)
        · rw [hn9, ← hR]
          simp [go, v0, v1, Nat.not_le.mpr hsp, no]
        · intro j hj
          rw [hn9, ← hPs j hj]
          simp [pth, v0, no]
          intro h
          omega
        · intro j hj
          show up2 _ _ _ _ (b + 11) j = _
          rw [up2_cell _ _ _ (by omega)]
          exact hQ2 j hj
      · refine ok_f (q2 (by omega)) ?_
        refine ok_app ?_
        refine ok_app ?_
        refine ok_in (vp_in_nI (by omega) (by omega)) ?_
        have hR' : R = (i + 1, r, m + 1, 0) := by
          rw [← hR]
          simp [go, v0, v1, Nat.not_lt.mp hsp, hi]
        refine ok_some (Or.inr ⟨_, rfl, ((hF2.up (Or.inl rfl)).up (Or.inl rfl)).up (Or.inl rfl), ?_⟩)
        rw [hR', nI_clamp (by omega)]
        refine ⟨by simp [up2, rI], ?_, by simp [up2, g2], by simp [up2, g3]; exact nI_1 m, by simp [up2, g4]; rfl, fun j h1 h2 => ?_⟩
        · simp [up2]
          rw [hb3, hr i hin]
        · rw [up2_cell _ _ _ (by omega), up2_cell _ _ _ (by omega), up2_cell _ _ _ (by omega)]
          exact hQ2 j (by simp at h1; omega)
theorem x_follow {b : Nat} {σ : Sg} {g rg : Nat → Nat} {np k sp c : Nat} (hg : ∀ x, x < 100 → σ (b + 8) x = gI (g x)) (hn : σ b 2 = nI np) (hgn : ∀ x, x < 100 → g x < np + 2) (hnp : np ≤ 7) (hr : ∀ i, i < np → σ (b + 2) i = nI (rg i)) (hk : k < 4) (hs : sp < 10) (hc : c < 8) :
    Ok (f_X1_follow b b (nI k) (nI sp) (nI c) σ) (RunEnd b g rg k sp c σ) := by
  unfold f_X1_follow
  refine ok_app ?_
  generalize hR : go g k no 10 0 c sp 0 = R
  have key : Ok (wh (b_X1_follow_14 b b (nI k)) 4096 (nI c, nI sp, 0, f_X1_startAfresh b σ)) (fun r => (∃ e, r = .inl e ∧ FolInv b g k R (pth g k no 10 0 c sp) σ 10 e) ∨ ∃ σ', r = .inr σ' ∧ FolEnd b rg R (pth g k no 10 0 c sp) σ σ') := by
    refine wh_0 (P := FolInv b g k R (pth g k no 10 0 c sp) σ) 10 (by omega) ?_ ?_
    · refine ⟨c, sp, 0, hc, hs, rfl, rfl, rfl, ?_, ?_, ?_, ?_, ?_, hR, fun j _ => rfl, fun j hj => absurd hj (by omega)⟩
      · unfold f_X1_startAfresh app
        exact ((((Fr.rf.up (Or.inl rfl)).up (Or.inl rfl)).up (Or.inl rfl)).up (Or.inl rfl)).up (Or.inl rfl)
      all_goals simp [f_X1_startAfresh, app, up2]
      rfl
    · intro r s hr10 hI
      by_cases hlt : r < 10
      · obtain ⟨y, e, h⟩ := fol_step hg hn hgn hnp hr hk hlt hI
        rcases h with ⟨s', rfl, h⟩ | ⟨σ', rfl, h⟩
        · exact Or.inl ⟨hlt, _, e, s', rfl, h⟩
        · exact Or.inr ⟨_, e, _, rfl, Or.inr ⟨σ', rfl, h⟩⟩
      · obtain rfl : r = 10 := by omega
        right
        obtain ⟨c', sp', m, -, -, e1, e2, e3, -⟩ := id hI
        unfold b_X1_follow_14
        rw [e3]
        refine ok_t (show nI 10 ≤ nI 10 from nle (Nat.le_refl _) (by omega)) ?_
        refine ok_some (in_r (Or.inl ⟨_, rfl, ?_⟩))
        rw [← e3]
        exact hI
  refine ok_bind key (fun r h => ?_)
  unfold RunEnd
  rw [hR]
  rcases h with ⟨e, rfl, c', sp', m, -, -, e1, e2, e3, hF, f0, f1, f3, f4, hR', -, hQ⟩ | ⟨σ', rfl, h⟩
  · refine ok_some ⟨hF.up (Or.inl rfl), ?_⟩
    simp [go] at hR'
    rw [← hR']
    refine ⟨by simp [up2, f0, rI], by simp [up2, f1], by simp [up2]; rfl, by simp [up2, f3], by simp [up2, f4]; rfl, fun j h1 h2 => ?_⟩
    rw [up2_cell _ _ _ (by omega)]
    exact hQ j h2
  · exact ok_some h
