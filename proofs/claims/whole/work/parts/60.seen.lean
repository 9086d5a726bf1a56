/-! what was seen -/
/-- seen thing i is so on page B -/
def sE (σ : Sg) (B : Pg) (i : Nat) : Bool := decide (rI (go (gOf B) (B (18 + (σ 82 (3 * i)).toNatClampNeg)) no 10 0 (σ 82 (3 * i + 1)).toNatClampNeg (B (22 + (σ 82 (3 * i)).toNatClampNeg)) 0).1 = σ 82 (3 * i + 2))
theorem x_holds {A B : Pg} {I : Nat → Pg} {σ s : Sg} {n : Nat} (h : InvA A I σ) (hs : Same σ s) (hX : RX 13 B s) (hW : WFs B) (hn : n ≤ 6) (e41 : B 41 = A 41) (h30 : σ 30 3 = nI n)
    (hS : ∀ i, i < n → ∃ h c p, h < A 41 ∧ c < 8 ∧ p ≤ 7 ∧ σ 31 i = nI h ∧ σ 82 (3 * i) = nI h ∧ σ 32 i = nI c ∧ σ 82 (3 * i + 1) = nI c ∧ σ 33 i = (if p = 0 then 9 else nI (p - 1)) ∧ σ 82 (3 * i + 2) = rI p) :
    Ok (f_X5_holds 13 s) (fun y => ((y.1 = 1 ∧ ∀ i, i < n → sE σ B i = true) ∨ (y.1 = 0 ∧ ∃ i, i < n ∧ sE σ B i = false)) ∧ Fr (crt 13) s y.2) := by
  have w1 := hW.1
  have w4 := hW.2.2.2.1
  unfold f_X5_holds
  refine ok_bind (Q := fun r => (∃ e, r = .inl e ∧ Fr (crt 13) s e.2 ∧ ∀ i, i < n → sE σ B i = true) ∨ ∃ e, r = .inr e ∧ e.1 = 0 ∧ Fr (crt 13) s e.2 ∧ ∃ i, i < n ∧ sE σ B i = false) ?_ ?_
  · refine wh_0 (P := fun k (t : Int32 × Sg) => t.1 = nI k ∧ Fr (crt 13) s t.2 ∧ ∀ i, i < k → sE σ B i = true) n (by omega) ⟨rfl, Fr.rf, fun i hi => by omega⟩ ?_
    rintro k ⟨x, t⟩ hk ⟨e1, hF, hj⟩
    dsimp at e1 hF
    subst e1
    have c30 : t 30 = σ 30 := by rw [hF 30 (by unfold crt; omega)]; exact hs.1 30 (by unfold scX; omega)
    have c31 : t 31 = σ 31 := by rw [hF 31 (by unfold crt; omega)]; exact hs.1 31 (by unfold scX; omega)
    have c32 : t 32 = σ 32 := by rw [hF 32 (by unfold crt; omega)]; exact hs.1 32 (by unfold scX; omega)
    have c33 : ∀ t' : Sg, Fr (crt 13) s t' → t' 33 = σ 33 := fun t' h' => by rw [h' 33 (by unfold crt; omega)]; exact hs.1 33 (by unfold scX; omega)
    unfold b_X5_holds_2
    dsimp +instances only
    rw [c30, c31, c32, h30]
    by_cases hlt : k < n
    · obtain ⟨i, c, p, z1, z2, z3, z4, z5, z6, z7, z8, z9⟩ := hS k hlt
      have i6 : inR (nI k) 6 = true := inR_of (vp_in_nI (by omega) (by omega))
      have hXt := hX.g.cr hF
      obtain ⟨y, f1, f2⟩ := x_letGo (i := i) (c := c) hXt hW gOf_lt2 (by omega) z2
      have hl := go_lt (k := B (18 + i)) (o := no) (gOf_lt2 (A := B)) 10 0 c (B (22 + i)) 0
      have y23 : y 23 0 = rI (go (gOf B) (B (18 + i)) no 10 0 c (B (22 + i)) 0).1 := f2.2.1
      have es : sE σ B k = decide (rI (go (gOf B) (B (18 + i)) no 10 0 c (B (22 + i)) 0).1 = rI p) := by
        unfold sE
        rw [z5, z7, z9, nI_clamp (by omega), nI_clamp (by omega)]
      generalize hR : (go (gOf B) (B (18 + i)) no 10 0 c (B (22 + i)) 0).1 = R at hl y23 es
      have ej : ((if p = 0 then (9 : Int32) else nI (p - 1)) = (if R = 0 then (9 : Int32) else nI (R - 1))) ↔ rI R = rI p := by
        have key : rI R = rI p ↔ R = p := by
          by_cases hp : p = 0
          · rw [hp]; exact rI_none (by omega)
          · obtain ⟨q, rfl⟩ : ∃ q, p = q + 1 := ⟨p - 1, by omega⟩
            rw [rI_s]
            exact rI_eq (by omega) (by omega)
        rw [key]
        by_cases hp : p = 0
        · by_cases hR0 : R = 0
          · simp [hp, hR0]
          · rw [if_pos hp, if_neg hR0]
            constructor
            · intro q; exact absurd q.symm (nne (b := 9) (by omega) (by omega) (by omega))
            · intro q; omega
        · by_cases hR0 : R = 0
          · rw [if_neg hp, if_pos hR0]
            constructor
            · intro q; exact absurd q (nne (b := 9) (by omega) (by omega) (by omega))
            · intro q; omega
          · rw [if_neg hp, if_neg hR0, nI_eq (by omega) (by omega)]
            omega
      have e9 : (if rI R = -4 then (9 : Int32) else rI R) = (if R = 0 then (9 : Int32) else nI (R - 1)) := by
        by_cases hR0 : R = 0
        · rw [hR0, if_pos rI_0, if_pos rfl]
        · rw [if_neg (fun q => hR0 ((rI_none (by omega)).mp q)), if_neg hR0]
          unfold rI
          rw [if_neg hR0]
      rw [if_neg (nnle hlt (by omega)), if_pos i6, nI_clamp (by omega), z4, if_neg (by rw [(xHog (x := nI i) (show t 13 7 = nI (B 41) from hXt.2.2.1) (by omega)).1 (vp_in_nI (by omega) (by omega))]; decide), if_pos i6, if_pos i6, z6, f1, Option.bind_some, if_pos i6, y23, c33 y (hF.tr f2.1), z8]
      simp only [app]
      rw [e9]
      by_cases z : rI R = rI p
      · left
        rw [if_pos (ej.mpr z)]
        refine ⟨hlt, ok_some ⟨_, rfl, nI_1 _, hF.tr f2.1, fun l hl' => ?_⟩⟩
        by_cases e : l = k
        · rw [e, es]; simp [z]
        · exact hj l (by omega)
      · right
        rw [if_neg (fun q => z (ej.mp q))]
        exact ok_some ⟨_, rfl, Or.inr ⟨_, rfl, rfl, hF.tr f2.1, k, hlt, by rw [es]; simp [z]⟩⟩
    · right
      obtain rfl : k = n := by omega
      exact ok_t (nle (Nat.le_refl _) (by omega)) (ok_some ⟨_, rfl, Or.inl ⟨_, rfl, hF, hj⟩⟩)
  · rintro r (⟨e, rfl, h1, h2⟩ | ⟨e, rfl, h0, h1, h2⟩)
    · exact ok_some ⟨Or.inl ⟨rfl, h2⟩, h1⟩
    · exact ok_some ⟨Or.inr ⟨h0, h2⟩, h1⟩
