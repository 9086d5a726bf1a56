/-! text: both -/
def XS : Sx → Sg → Prop
  | .inl q, σ => XL (.inl q) σ ∧ ∃ B, RX 57 B σ ∧ WFs B
  | .inr p, σ => XL (.inr p.1) σ ∧ RX 57 p.2 σ
def MZ : Sx → Sg → Prop
  | .inl q, σ => ML (.inl q) σ
  | .inr p, σ => ML (.inr p.1) σ ∧ RD p.2 σ
theorem x_next {b : Nat → Nat} {n : Nat} {x : Ft ⊕ (Nat × Pg)} {σ : Sg} (h : TX b n σ) (hX : XY x σ) (hx : ∀ p, x = .inr p → p.1 ≤ n) : Ok (f_X4_advance σ) (fun y => XS (eb x (nxt b n)) y ∧ Fr dr σ y) := by
  rcases x with q | p
  · exact ok_eq (x_adv_no hX.1) ⟨hX, Fr.rf⟩
  · obtain ⟨u1, u2, u3, u4⟩ := hX
    refine ok_mono (x_adv h (hx p rfl) u1 u2) (fun y hy => ?_)
    rw [eb_r]
    unfold nxt
    cases hl : lx b n p.1 with
    | inl q => rw [hl] at hy; exact ⟨⟨hy.1, p.2, u3.f56 hy.2, u4⟩, hy.2.dr⟩
    | inr t => rw [hl] at hy; exact ⟨⟨hy.1, u3.f56 hy.2⟩, hy.2.dr⟩
theorem x_lines {b : Nat → Nat} {n K : Nat} {σ : Sg} (h : TX b n σ) (hK : K ≤ 160) (hh : halt (stK b n K) = true) (hf : ∀ j, j < K → halt (stK b n j) = false) (h0 : XS (stK b n 0) σ) :
    Ok (wh b_X4_readAll_23 4096 ((0 : Int32), σ)) (fun e => e.1 = nI K ∧ XS (stK b n K) e.2 ∧ Fr dr σ e.2) := by
  refine wh_1 (P := fun k (e : Int32 × Sg) => e.1 = nI k ∧ XS (stK b n k) e.2 ∧ Fr dr σ e.2) K (by omega) ⟨rfl, h0, Fr.rf⟩ ?_
  rintro k ⟨x, s⟩ hk ⟨e1, e2, e3⟩
  dsimp at e1 e2 e3
  subst e1
  unfold b_X4_readAll_23
  dsimp +instances only
  by_cases hlt : k < K
  · refine ok_f (show ¬ (160 : Int32) ≤ nI k from nnle (b := 160) (by omega) (by omega)) ?_
    have h1 := stK_ok k (fun j hj => hf j (by omega))
    have h2 := hf k hlt
    have hnx : stK b n (k + 1) = stp b n (stK b n k) := rfl
    cases hs : stK b n k with
    | inl q => rw [hs] at h2; cases h2
    | inr tb =>
      obtain ⟨t, B⟩ := tb
      rw [hs] at h1 h2 e2 hnx
      obtain ⟨q1, q2, q3, q4, q5, q6, q7⟩ := h1
      obtain ⟨u1, u2⟩ := e2
      have ht : t.1 ≠ 0 := fun z => by
        have h2' : decide (t.1 = 0) = false := h2
        rw [z] at h2'
        cases h2'
      dsimp only at u1 u2
      refine ok_t u1.1 (ok_f ?_ ?_)
      · rw [u1.2.1, if_neg ht]
        exact fun z => by
          have := (nI_eq (b := 4) (by omega) (by omega)).mp z
          omega
      · refine ok_bind (x_readLine (h.d e3) u1 u2 q1 q2 q4 q5) (fun y9 hy9 => ?_)
        have hT9 := (h.d e3).d hy9.2
        refine ok_bind (x_next hT9 hy9.1 (fun p hp => (ln_ok q1 q5 hp).2.2)) (fun y10 hy10 => ok_some (Or.inl ⟨hlt, _, rfl, nI_1 _, ?_, (e3.tr hy9.2).tr hy10.2⟩))
        rw [hnx]
        exact hy10.1
  · obtain rfl : k = K := by omega
    by_cases c : (160 : Int32) ≤ nI k
    · exact ok_t c (ok_some (Or.inr ⟨_, rfl, rfl, e2, e3⟩))
    · refine ok_f c ?_
      cases hs : stK b n k with
      | inl q =>
        rw [hs] at e2
        exact ok_f e2.1.ne (ok_some (Or.inr ⟨_, rfl, rfl, e2, e3⟩))
      | inr tb =>
        obtain ⟨t, B⟩ := tb
        rw [hs] at hh e2
        have ht : t.1 = 0 := of_decide_eq_true hh
        refine ok_t e2.1.1 (ok_t ?_ (ok_some (Or.inr ⟨_, rfl, rfl, e2, e3⟩)))
        have := e2.1.2.1
        rw [this]
        dsimp only
        rw [if_pos ht]
        rfl
/-- behind all -/
def fin : Sx → Sx
  | .inl q => .inl q
  | .inr p => if hiS p.2 (p.2 40) ≤ p.2 41 then .inr p else .inl (6, p.1.2.1)
theorem x_suitsOk {x : Sx} {σ : Sg} (hX : XS x σ) (hW : ∀ p, x = .inr p → WFs p.2) : Ok (wh b_X4_readAll_61 4096 ((0 : Int32), σ)) (fun e => XS (fin x) e.2 ∧ F56 σ e.2) := by
  rcases x with q | ⟨t, B⟩
  · obtain ⟨h1, B, h2, h3⟩ := hX
    refine wh_0 (P := fun k (e : Int32 × Sg) => e.1 = nI k ∧ e.2 = σ) (B 40) (by have := h3.2.2.1; omega) ⟨rfl, rfl⟩ ?_
    rintro k ⟨x, s⟩ hk ⟨e1, e2⟩
    dsimp at e1 e2
    subst e1 e2
    have w3 := h3.2.2.1
    unfold b_X4_readAll_61
    dsimp +instances only
    rw [h2.2.2.2.1]
    by_cases hlt : k < B 40
    · left
      refine ⟨hlt, ok_f (nnle hlt (by omega)) (ok_in (vp_in_nI (by omega) (by omega)) ?_)⟩
      rw [x_fail_no h1, ite_self]
      exact ok_app (ok_some ⟨_, rfl, nI_1 _, rfl⟩)
    · right
      obtain rfl : k = B 40 := by omega
      exact ok_t (nle (Nat.le_refl _) (by omega)) (ok_some ⟨_, rfl, ⟨h1, B, h2, h3⟩, F56.rf⟩)
  · obtain ⟨h1, h2⟩ := hX
    have h3 := hW _ rfl
    dsimp only at h1 h2 h3
    have w3 := h3.2.2.1
    have w4 := h3.2.2.2.1
    have w8 := h3.2.2.2.2.2.2.2.1
    refine wh_0 (P := fun k (e : Int32 × Sg) => e.1 = nI k ∧ F56 σ e.2 ∧ (((∀ j, j < k → B (26 + j) < B 41) ∧ XL (.inr t) e.2) ∨ ((∃ j, j < k ∧ ¬ B (26 + j) < B 41) ∧ XL (.inl (6, t.2.1)) e.2))) (B 40) (by omega) ⟨rfl, F56.rf, Or.inl ⟨fun j hj => by omega, h1⟩⟩ ?_
    rintro k ⟨x, s⟩ hk ⟨e1, e2, e3⟩
    dsimp at e1 e2 e3
    subst e1
    have h2s := h2.f56 e2
    unfold b_X4_readAll_61
    dsimp +instances only
    rw [h2s.2.2.2.1]
    by_cases hlt : k < B 40
    · left
      refine ⟨hlt, ok_f (nnle hlt (by omega)) (ok_in (vp_in_nI (by omega) (by omega)) ?_)⟩
      rw [nI_clamp (by omega), show s 63 k = nI (B (26 + k)) from (h2s.2.2.2.2.2.2.2.1 k hlt).1]
      have hh := xHog (b := 57) (x := nI (B (26 + k))) h2s.2.2.1 (by omega)
      have hb := (w8 k hlt).1
      rcases e3 with ⟨q1, q2⟩ | ⟨⟨j, q1, q2⟩, q3⟩
      · by_cases c : B (26 + k) < B 41
        · rw [hh.1 (vp_in_nI c (by omega)), if_neg z10]
          refine ok_app (ok_some ⟨_, rfl, nI_1 _, e2, Or.inl ⟨fun j hj => ?_, q2⟩⟩)
          by_cases e : j = k
          · rw [e]; exact c
          · exact q1 j (by omega)
        · rw [hh.2 (fun z => c (by
            rw [vin_iff, nI_toInt (by omega)] at z
            omega)), if_pos rfl]
          obtain ⟨f1, f2⟩ := x_fail (c := 6) (by omega) (by omega) q2.1 q2.2.2.1
          exact ok_app (ok_some ⟨_, rfl, nI_1 _, e2.tr f2, Or.inr ⟨⟨k, by omega, c⟩, f1⟩⟩)
      · rw [x_fail_no q3, ite_self]
        exact ok_app (ok_some ⟨_, rfl, nI_1 _, e2, Or.inr ⟨⟨j, by omega, q2⟩, q3⟩⟩)
    · right
      obtain rfl : k = B 40 := by omega
      refine ok_t (nle (Nat.le_refl _) (by omega)) (ok_some ⟨_, rfl, ?_, e2⟩)
      show XS (if hiS B (B 40) ≤ B 41 then .inr (t, B) else .inl (6, t.2.1)) s
      rcases e3 with ⟨q1, q2⟩ | ⟨⟨j, q1, q2⟩, q3⟩
      · rw [if_pos ((hiS_le _).mpr q1)]
        exact ⟨q2, h2s⟩
      · rw [if_neg (fun z => q2 ((hiS_le _).mp z j q1))]
        exact ⟨q3, B, h2s, h3⟩
/-- what is answered -/
def ans (K : Nat) : Sx → Int32
  | .inl q => -10 - nI q.2
  | .inr _ => nI K
theorem x_emptied {σ : Sg} : RX 57 P0 (f_X7_empty 57 σ) ∧ Fr (slp 57) σ (f_X7_empty 57 σ) := by
  have g0 : ∀ c, gOf P0 c = 0 := fun c => gOf_none (fun j hj => absurd hj (Nat.not_lt_zero _)) (fun j hj => absurd hj (Nat.not_lt_zero _))
  unfold f_X7_empty
  simp only [app]
  refine ⟨⟨?_, ?_, ?_, ?_, fun i hi => absurd hi (Nat.not_lt_zero _), fun i hi => absurd hi (Nat.not_lt_zero _), fun i hi => absurd hi (Nat.not_lt_zero _), fun i hi => absurd hi (Nat.not_lt_zero _), fun c hc => ?_⟩, ?_⟩
  · rw [upR_ne _ _ (by decide)]; simp [up2]; rfl
  · rw [upR_ne _ _ (by decide)]; simp [up2]; rfl
  · rw [upR_ne _ _ (by decide)]; simp [up2]; rfl
  · rw [upR_ne _ _ (by decide)]; simp [up2]; rfl
  · rw [upR_same, g0]
    unfold fillR
    rw [if_pos hc]
    rfl
  · exact ((((Fr.rf.up (by unfold slp; omega)).up (by unfold slp; omega)).up (by unfold slp; omega)).up (by unfold slp; omega)).row (by unfold slp; omega)
theorem x_readAll {b : Nat → Nat} {n K : Nat} {σ : Sg} (h : TX b n σ) (hK : K ≤ 160) (hh : halt (stK b n K) = true) (hf : ∀ j, j < K → halt (stK b n j) = false) :
    Ok (f_X4_readAll σ) (fun y => y.1 = ans K (fin (stK b n K)) ∧ XS (fin (stK b n K)) y.2 ∧ Fr dr σ y.2) := by
  unfold f_X4_readAll
  obtain ⟨g1, g2⟩ := x_emptied (σ := σ)
  refine ok_app (ok_app (ok_app ?_))
  have hF : Fr dr σ (up2 (up2 (f_X7_empty 57 σ) 56 1 0) 56 6 0) := ((Fr.mono (q := dr) g2 (fun c hc => Or.inr hc)).up (show dr 56 from Or.inl rfl)).up (show dr 56 from Or.inl rfl)
  have hR : RX 57 P0 (up2 (up2 (f_X7_empty 57 σ) 56 1 0) 56 6 0) := (g1.keep (fun k hk => up2_cell _ _ _ (by omega))).keep (fun k hk => up2_cell _ _ _ (by omega))
  have k1 : (up2 (up2 (f_X7_empty 57 σ) 56 1 0) 56 6 0) 56 1 = 0 := by rw [up2_slot _ _ (by decide), up2_same]
  have k6 : (up2 (up2 (f_X7_empty 57 σ) 56 1 0) 56 6 0) 56 6 = nI 0 := up2_same _ _ _ _
  generalize up2 (up2 (f_X7_empty 57 σ) 56 1 0) 56 6 0 = u at hF hR k1 k6
  refine ok_bind (x_next (x := .inr (0, P0)) (h.d hF) ⟨k1, k6, hR, P0_ok⟩ (fun p hp => by injection hp with hp; rw [← hp]; exact Nat.zero_le _)) (fun y4 hy4 => ?_)
  refine ok_bind (x_lines ((h.d hF).d hy4.2) hK hh hf hy4.1) (fun e11 he => ?_)
  obtain ⟨q1, q2, q3⟩ := he
  have hso := stK_ok (b := b) (n := n) K hf
  refine ok_bind (x_suitsOk q2 (fun p hp => by rw [hp] at hso; exact hso.1)) (fun e17 h17 => ?_)
  obtain ⟨p1, p2⟩ := h17
  have hFe : Fr dr σ e17.2 := ((hF.tr hy4.2).tr q3).tr p2.dr
  generalize fin (stK b n K) = x at p1
  rcases x with q | p
  · exact ok_f p1.1.ne (ok_some ⟨by dsimp only; rw [p1.1.2.2.2]; rfl, p1, hFe⟩)
  · exact ok_t p1.1.1 (ok_some ⟨q1, p1, hFe⟩)
theorem m_lines {b : Nat → Nat} {n K : Nat} {σ : Sg} (h : TM b n σ) (hC : Cst σ) (hK : K ≤ 160) (hh : halt (stK b n K) = true) (hf : ∀ j, j < K → halt (stK b n j) = false) (h0 : MZ (stK b n 0) σ) :
    Ok (wh b_X10_text_47 4096 ((0 : Int32), σ)) (fun e => e.1 = nI K ∧ MZ (stK b n K) e.2 ∧ A7 σ e.2) := by
  refine wh_1 (P := fun k (e : Int32 × Sg) => e.1 = nI k ∧ MZ (stK b n k) e.2 ∧ A7 σ e.2) K (by omega) ⟨rfl, h0, A7.rf⟩ ?_
  rintro k ⟨x, s⟩ hk ⟨e1, e2, e3⟩
  dsimp at e1 e2 e3
  subst e1
  unfold b_X10_text_47
  dsimp +instances only
  by_cases hlt : k < K
  · have h1 := stK_ok k (fun j hj => hf j (by omega))
    have h2 := hf k hlt
    have hnx : stK b n (k + 1) = stp b n (stK b n k) := rfl
    cases hs : stK b n k with
    | inl q => rw [hs] at h2; cases h2
    | inr tb =>
      obtain ⟨t, B⟩ := tb
      rw [hs] at h1 h2 e2 hnx
      obtain ⟨q1, q2, q3, q4, q5, q6, q7⟩ := h1
      obtain ⟨u1, u2⟩ := e2
      have ht : t.1 ≠ 0 := fun z => by
        have h2' : decide (t.1 = 0) = false := h2
        rw [z] at h2'
        cases h2'
      dsimp only at u1 u2
      refine ok_t u1.1 (ok_f (fun z => ht ((m_tk u1 q2 (k := 0) (by omega)).mp z)) ?_)
      refine ok_bind (m_readLine (h.g e3) (hC.a7 e3) u1 u2 q1 q2 q4 q5) (fun y hy => ok_some (Or.inl ⟨hlt, _, rfl, nI_1 _, ?_, e3.tr hy.2⟩))
      rw [hnx]
      obtain ⟨v1, -⟩ := hy
      show MZ (eb (ln b n B t) (nxt b n)) y
      cases hl : ln b n B t with
      | inl q => rw [hl] at v1; exact v1
      | inr p =>
        rw [hl] at v1
        rw [eb_r]
        unfold nxt
        obtain ⟨v2, v3⟩ := v1
        cases hl2 : lx b n p.1 with
        | inl q => rw [hl2] at v2; exact v2
        | inr t' => rw [hl2] at v2; exact ⟨v2, v3⟩
  · obtain rfl : k = K := by omega
    cases hs : stK b n k with
    | inl q =>
      rw [hs] at e2
      exact ok_f (ML.ne (show ML (.inl q) s from e2)) (ok_some (Or.inr ⟨_, rfl, rfl, e2, e3⟩))
    | inr tb =>
      obtain ⟨t, B⟩ := tb
      rw [hs] at hh e2
      have ht : t.1 = 0 := of_decide_eq_true hh
      refine ok_t e2.1.1 (ok_t ?_ (ok_some (Or.inr ⟨_, rfl, rfl, e2, e3⟩)))
      have := e2.1.2.1
      rw [this]
      dsimp only
      rw [ht]
      rfl
theorem hi_lt : ∀ a, a < 6 → ∀ m, m < 6 → (nI a - 1 < nI m ↔ a ≤ m) := by decide +kernel
