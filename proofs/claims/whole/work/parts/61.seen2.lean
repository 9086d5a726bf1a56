theorem isB_1 : isB 1 = true := by decide
theorem isB_0 : isB 0 = true := by decide
theorem m_asSeen {A B : Pg} {I : Nat → Pg} {σ s : Sg} {n : Nat} (h : InvA A I σ) (hs : Same σ s) (hM : RM 164 B s) (hW : WFs B) (hn : n ≤ 6) (e41 : B 41 = A 41) (h30 : σ 75 22 = nI n)
    (hS : ∀ i, i < n → ∃ h c p, h < A 41 ∧ c < 8 ∧ p ≤ 7 ∧ σ 31 i = nI h ∧ σ 82 (3 * i) = nI h ∧ σ 32 i = nI c ∧ σ 82 (3 * i + 1) = nI c ∧ σ 33 i = (if p = 0 then 9 else nI (p - 1)) ∧ σ 82 (3 * i + 2) = rI p) :
    Ok (f_X10_isAsSeen 164 s) (fun y => ((y.1 = 1 ∧ ∀ i, i < n → sE σ B i = true) ∨ (y.1 = 0 ∧ ∃ i, i < n ∧ sE σ B i = false)) ∧ FrM s y.2) := by
  have w1 := hW.1
  have w4 := hW.2.2.2.1
  unfold f_X10_isAsSeen
  refine ok_bind (Q := fun e => ((e.1 = 1 ∧ ∀ i, i < n → sE σ B i = true) ∨ (e.1 = 0 ∧ ∃ i, i < n ∧ sE σ B i = false)) ∧ FrM s e.2.2) ?_ ?_
  · refine wh_0 (P := fun k (t : Int32 × Int32 × Sg) => t.2.1 = nI k ∧ FrM s t.2.2 ∧ ((t.1 = 1 ∧ ∀ i, i < k → sE σ B i = true) ∨ (t.1 = 0 ∧ ∃ i, i < k ∧ sE σ B i = false))) n (by omega) ⟨rfl, FrM.rf, Or.inl ⟨rfl, fun i hi => by omega⟩⟩ ?_
    rintro k ⟨m, x, t⟩ hk ⟨e1, hF, hj⟩
    dsimp at e1 hF hj
    subst e1
    have c82 : ∀ t' : Sg, FrM s t' → t' 82 = σ 82 := fun t' h' => by rw [h'.1 82 (by omega) (by omega)]; exact hs.1 82 (by unfold scX; omega)
    have c22 : t 75 22 = nI n := by rw [hF.2 22 (by omega) (by omega) (by omega) (by omega), hs.2.1 22 (by omega)]; exact h30
    have c1 : t 75 1 = nI (A 41) := by rw [hF.2 1 (by omega) (by omega) (by omega) (by omega), hs.2.1 1 (by omega)]; exact h.2.2.1
    unfold b_X10_isAsSeen_4
    dsimp +instances only
    rw [c22, c82 t hF, show (3 : Int32) * nI k = nI (3 * k) from by rw [show (3 : Int32) = nI 3 from rfl, pk_mul], show nI (3 * k) + 1 = nI (3 * k + 1) from nI_add _ 1, show nI (3 * k) + 2 = nI (3 * k + 2) from nI_add _ 2]
    by_cases hlt : k < n
    · left
      obtain ⟨i, c, p, z1, z2, z3, z4, z5, z6, z7, z8, z9⟩ := hS k hlt
      have i1 : inR (nI (3 * k)) 18 = true := inR_of (vp_in_nI (by omega) (by omega))
      have i2 : inR (nI (3 * k + 1)) 18 = true := inR_of (vp_in_nI (by omega) (by omega))
      have i3 : inR (nI (3 * k + 2)) 18 = true := inR_of (vp_in_nI (by omega) (by omega))
      obtain ⟨y, f1, f2⟩ := m_runs0 (p := 164) (h := i) (c := c) (hM.fr hF) (by omega) hW (by omega) z2
      have f1' : f_X10_runsOn 164 (nI i) (nI c) 0 t = some y := f1
      have hl := go_lt (k := B (18 + i)) (o := no) (gOf_lt2 (A := B)) 10 0 c (B (22 + i)) 0
      have y16 : y 75 16 = rI (go (gOf B) (B (18 + i)) no 10 0 c (B (22 + i)) 0).1 := f2.2.1
      have es : sE σ B k = decide (rI (go (gOf B) (B (18 + i)) no 10 0 c (B (22 + i)) 0).1 = rI p) := by
        unfold sE
        rw [z5, z7, z9, nI_clamp (by omega), nI_clamp (by omega)]
      refine ⟨hlt, ok_f (nnle hlt (by omega)) ?_⟩
      rw [if_pos i1, nI_clamp (by omega), z5]
      refine ok_app ?_
      rw [(mHog (x := nI i) c1 (by omega)).1 (vp_in_nI z1 (by omega)), if_neg z10, if_pos i1, if_pos i2, nI_clamp (by omega), z7, f1', Option.bind_some, Option.bind_some, if_neg z10, if_pos i3, nI_clamp (by omega), y16, c82 y (hF.tr f2.1), z9]
      rcases hj with ⟨hm, hj⟩ | ⟨hm, l, hl1, hl2⟩
      · rw [hm, if_neg z10]
        by_cases z : rI (go (gOf B) (B (18 + i)) no 10 0 c (B (22 + i)) 0).1 = rI p
        · rw [if_pos z, Option.bind_some]
          refine ok_some ⟨_, rfl, nI_1 _, hF.tr f2.1, Or.inl ⟨rfl, fun l hl' => ?_⟩⟩
          by_cases e : l = k
          · rw [e, es]; simp [z]
          · exact hj l (by omega)
        · rw [if_neg z, Option.bind_some]
          exact ok_some ⟨_, rfl, nI_1 _, hF.tr f2.1, Or.inr ⟨rfl, k, by omega, by rw [es]; simp [z]⟩⟩
      · rw [hm, if_pos rfl, Option.bind_some]
        exact ok_some ⟨_, rfl, nI_1 _, hF.tr f2.1, Or.inr ⟨rfl, l, by omega, hl2⟩⟩
    · right
      obtain rfl : k = n := by omega
      exact ok_t (nle (Nat.le_refl _) (by omega)) (ok_some ⟨_, rfl, hj, hF⟩)
  · rintro ⟨m, x, t⟩ ⟨hj, hF⟩
    dsimp at hj hF
    dsimp +instances only
    rcases hj with ⟨hm, hj⟩ | ⟨hm, hj⟩
    · rw [hm, if_pos isB_1]
      exact ok_some ⟨Or.inl ⟨rfl, hj⟩, hF⟩
    · rw [hm, if_pos isB_0]
      exact ok_some ⟨Or.inr ⟨rfl, hj⟩, hF⟩
/-- all that was seen is so -/
def aE (σ : Sg) (B : Pg) : Nat → Bool
  | 0 => true
  | n + 1 => aE σ B n && sE σ B n
theorem aE_iff {σ : Sg} {B : Pg} : ∀ n, aE σ B n = true ↔ ∀ i, i < n → sE σ B i = true := by
  intro n
  induction n with
  | zero => exact ⟨fun _ i hi => absurd hi (by omega), fun _ => rfl⟩
  | succ n ih =>
    unfold aE
    rw [Bool.and_eq_true, ih]
    constructor
    · rintro ⟨h1, h2⟩ i hi
      by_cases e : i = n
      · rw [e]; exact h2
      · exact h1 i (by omega)
    · intro h
      exact ⟨fun i hi => h i (by omega), h n (by omega)⟩
theorem aE_of {σ : Sg} {B : Pg} {n : Nat} {v : Int32} (h : (v = 1 ∧ ∀ i, i < n → sE σ B i = true) ∨ (v = 0 ∧ ∃ i, i < n ∧ sE σ B i = false)) : v = if aE σ B n = true then 1 else 0 := by
  rcases h with ⟨h1, h2⟩ | ⟨h1, i, h2, h3⟩
  · rw [if_pos ((aE_iff n).mpr h2), h1]
  · rw [if_neg, h1]
    intro q
    rw [(aE_iff n).mp q i h2] at h3
    cases h3
