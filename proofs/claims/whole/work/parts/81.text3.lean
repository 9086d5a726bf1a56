theorem ap_eq {α β : Type} (v : α) (f : α → β) : app v f = f v := rfl
theorem nxt_ms {b : Nat → Nat} {n : Nat} {σ : Sg} (h : ML (lx b n 0) σ) (hR : RD P0 σ) : MZ (nxt b n (0, P0)) σ := by
  unfold nxt
  dsimp only
  cases hl : lx b n 0 with
  | inl q => rw [hl] at h; exact h
  | inr t => rw [hl] at h; exact ⟨h, hR⟩
/-- the reference's text, up to what is taken over -/
theorem m_clear {σ : Sg} : Ok (wh b_X10_text_24 4096 ((0 : Int32), σ)) (fun e => (∀ k, k < 41 → e.2 77 k = 0) ∧ Fr (fun c => c = 77) σ e.2) := by
  refine wh_0 (P := fun t (e : Int32 × Sg) => e.1 = nI t ∧ (∀ k, k < t → e.2 77 k = 0) ∧ Fr (fun c => c = 77) σ e.2) 41 (by omega) ⟨rfl, fun k hk => by omega, Fr.rf⟩ ?_
  rintro t ⟨x, s⟩ ht ⟨e1, e2, e3⟩
  dsimp at e1 e2 e3
  subst e1
  unfold b_X10_text_24
  dsimp +instances only
  by_cases hlt : t < 41
  · left
    refine ⟨hlt, ok_f (show ¬ (41 : Int32) ≤ nI t from nnle (b := 41) hlt (by omega)) (ok_in (vp_in_nI (by omega) (by omega)) (ok_some ⟨_, rfl, nI_1 _, fun k hk => ?_, Fr.up e3 rfl⟩))⟩
    dsimp only
    rw [nI_clamp (by omega)]
    by_cases e : k = t
    · subst e; rw [up2_same]
    · rw [up2_slot _ _ e]; exact e2 k (by omega)
  · right
    obtain rfl : t = 41 := by omega
    exact ok_t (by decide) (ok_some ⟨_, rfl, e2, e3⟩)
theorem m_take {B : Pg} {σ : Sg} (h : R7 B σ) : Ok (wh b_X10_text_125 4096 ((0 : Int32), σ)) (fun e => RM 0 B e.2 ∧ Agr (Pgp 0) σ e.2) := by
  refine wh_0 (P := fun t (e : Int32 × Sg) => e.1 = nI t ∧ (∀ k, k < t → e.2 76 k = nI (B k)) ∧ Agr (Pgp 0) σ e.2) 41 (by omega) ⟨rfl, fun k hk => by omega, Agr.rf⟩ ?_
  rintro t ⟨x, s⟩ ht ⟨e1, e2, e3⟩
  dsimp at e1 e2 e3
  subst e1
  unfold b_X10_text_125
  dsimp +instances only
  by_cases hlt : t < 41
  · left
    refine ⟨hlt, ok_f (show ¬ (41 : Int32) ≤ nI t from nnle (b := 41) hlt (by omega)) (ok_in (vp_in_nI (by omega) (by omega)) (ok_in (vp_in_nI (by omega) (by omega)) (ok_some ⟨_, rfl, nI_1 _, fun k hk => ?_, Agr.up e3 (by rw [nI_clamp (by omega)]; unfold Pgp; omega)⟩)))⟩
    dsimp only
    rw [nI_clamp (by omega)]
    by_cases e : k = t
    · subst e
      rw [up2_same, e3 _ _ (by unfold Pgp; omega)]
      exact h k (by omega)
    · rw [up2_slot _ _ e]; exact e2 k (by omega)
  · right
    obtain rfl : t = 41 := by omega
    refine ok_t (by decide) (ok_some ⟨_, rfl, fun k hk => ?_, e3⟩)
    rw [Nat.zero_add]
    exact e2 k hk
theorem m_text {b : Nat → Nat} {n K : Nat} {σ : Sg} (h : TM b n σ) (hC : Cst σ) (hK : K ≤ 160) (hh : halt (stK b n K) = true) (hf : ∀ j, j < K → halt (stK b n j) = false) :
    ∃ s, A7 σ s ∧ (∀ q, fin (stK b n K) = .inl q → ML (.inl q) s ∧ f_X10_text σ = some (-10 - nI q.2, up2 (up2 s 75 6 0) 75 7 (nI q.1))) ∧
      (∀ t B, fin (stK b n K) = .inr (t, B) → ∃ s', RM 0 B s' ∧ Agr (Pgp 0) (up2 (up2 s 75 6 0) 75 7 0) s' ∧ f_X10_text σ = some (nI K, up2 (up2 (up2 (up2 s' 75 1 (nI (B 41))) 75 22 0) 84 0 0) 84 1 0)) := by
  have hn := h.1
  -- the start
  generalize hσ4 : up2 (up2 (up2 (up2 σ 75 8 (0 : Int32)) 75 10 (0 : Int32)) 75 3 (0 : Int32)) 75 4 (-1 : Int32) = σ4
  have hA4 : A7 σ σ4 := by
    rw [← hσ4]
    exact (((A7.rf.a ((A75.rf.u (by omega)).u (by omega))).v (by omega)).v (by omega))
  have s8 : σ4 75 8 = 0 := by rw [← hσ4]; simp [up2]
  have s10 : σ4 75 10 = 0 := by rw [← hσ4]; simp [up2]
  have s3 : σ4 75 3 = 0 := by rw [← hσ4]; simp [up2]
  have s4 : σ4 75 4 = -1 := by rw [← hσ4]; simp [up2]
  obtain ⟨⟨x5, σ5⟩, g1, g2, g3⟩ := m_clear (σ := σ4)
  dsimp only at g2 g3
  have k75 : σ5 75 = σ4 75 := g3 75 (by decide)
  have hA5 : A7 σ σ5 := hA4.tr (Agr.fr g3 (fun c j z => Or.inr z))
  have hR5 : RD P0 σ5 := ⟨fun k hk => by rw [g2 k hk]; rfl, by rw [k75, s3]; rfl, by rw [k75, s4]; decide⟩
  obtain ⟨σ6, p1, p2, p3⟩ := m_step' (b := b) (n := n) (h.g hA5) (Nat.zero_le _) (by rw [k75]; exact s8) (by rw [k75]; exact s10)
  have hA6 : A7 σ σ6 := hA5.a p3
  obtain ⟨⟨x7, σ7⟩, u1, u2, u3, u4⟩ := m_lines (h.g hA6) (hC.a7 hA6) hK hh hf (nxt_ms p2 (hR5.a p3))
  dsimp only at u2 u3 u4
  subst u2
  have hA7 : A7 σ σ7 := hA6.tr u4
  have hso := stK_ok (b := b) (n := n) K hf
  have e : f_X10_text σ = app (if (σ7 75 8) = 0 then
    if (σ7 75 4) < (σ7 75 3) then
      σ7
    else
      (f_X10_fails (6 : Int32) σ7)
  else
    σ7) fun (j15 : Sg) =>
  app (up2 j15 75 6 (0 : Int32)) fun (σ18 : Sg) =>
  app (up2 σ18 75 7 (σ18 75 8)) fun (σ19 : Sg) =>
  if (σ19 75 8) ≤ 0 then
    (wh b_X10_text_125 4096 ((0 : Int32), σ19)).bind fun (e25 : (Int32 × Sg)) =>
    app (up2 e25.2 75 1 (e25.2 75 3)) fun (σ26 : Sg) =>
    app (up2 σ26 75 22 (0 : Int32)) fun (σ27 : Sg) =>
    app (up2 σ27 84 (0 : Int32).toNatClampNeg (0 : Int32)) fun (σ28 : Sg) =>
    some (nI K, (up2 σ28 84 (1 : Int32).toNatClampNeg (0 : Int32)))
  else
    some (((-10 : Int32) - (σ19 75 9)), σ19) := by
    unfold f_X10_text
    rw [ap_eq (up2 σ 75 8 (0 : Int32)), ap_eq (up2 _ 75 10 (0 : Int32)), ap_eq (up2 _ 75 3 (0 : Int32)), ap_eq (up2 _ 75 4 (-1 : Int32)), hσ4, g1, Option.bind_some, p1, Option.bind_some, u1, Option.bind_some]
  -- a fault
  have bad : ∀ (q : Ft) (s : Sg), ML (.inl q) s → (app s fun (j15 : Sg) =>
  app (up2 j15 75 6 (0 : Int32)) fun (σ18 : Sg) =>
  app (up2 σ18 75 7 (σ18 75 8)) fun (σ19 : Sg) =>
  if (σ19 75 8) ≤ 0 then
    (wh b_X10_text_125 4096 ((0 : Int32), σ19)).bind fun (e25 : (Int32 × Sg)) =>
    app (up2 e25.2 75 1 (e25.2 75 3)) fun (σ26 : Sg) =>
    app (up2 σ26 75 22 (0 : Int32)) fun (σ27 : Sg) =>
    app (up2 σ27 84 (0 : Int32).toNatClampNeg (0 : Int32)) fun (σ28 : Sg) =>
    some (nI K, (up2 σ28 84 (1 : Int32).toNatClampNeg (0 : Int32)))
  else
    some (((-10 : Int32) - (σ19 75 9)), σ19)) = some (-10 - nI q.2, up2 (up2 s 75 6 0) 75 7 (nI q.1)) := fun q s hs => by
    simp only [app]
    have e8 : up2 s 75 6 (0 : Int32) 75 8 = nI q.1 := by rw [up2_slot _ _ (by decide)]; exact hs.2.2.1
    rw [e8, up2_slot _ _ (by decide), e8, if_neg (nI_nle (by have := hs.1; omega) (by have := hs.2.1; omega)), up2_slot _ _ (by decide), up2_slot _ _ (by decide), hs.2.2.2]
  cases hs : stK b n K with
  | inl q =>
    rw [hs] at u3
    have u3' : ML (.inl q) σ7 := u3
    refine ⟨σ7, hA7, fun q' hq => ?_, fun t B hq => by cases hq⟩
    injection hq with hq
    subst hq
    refine ⟨u3', ?_⟩
    rw [e, if_neg u3'.ne]
    exact bad q σ7 u3'
  | inr tb =>
    obtain ⟨t, B⟩ := tb
    rw [hs] at u3 hso
    obtain ⟨v1, v2⟩ := u3
    obtain ⟨w1, -⟩ := hso
    dsimp only at v1 v2
    have w4 := w1.2.2.2.1
    have hH : hiS B (B 40) ≤ 4 := (hiS_le _).mpr (fun j hj => (w1.2.2.2.2.2.2.2.1 j hj).1)
    have hlt := hi_lt (hiS B (B 40)) (by omega) (B 41) (by omega)
    rw [if_pos v1.1, v2.2.2, v2.2.1] at e
    by_cases c : hiS B (B 40) ≤ B 41
    · have hfin : fin (.inr (t, B)) = .inr (t, B) := by
        show (if hiS B (B 40) ≤ B 41 then (.inr (t, B) : Sx) else .inl (6, t.2.1)) = _
        rw [if_pos c]
      rw [hfin]
      refine ⟨σ7, hA7, fun q' hq => (by cases hq), fun t' B' hq => ?_⟩
      injection hq with hq
      injection hq with hq1 hq2
      subst hq1 hq2
      rw [if_pos (hlt.mpr c)] at e
      simp only [app] at e
      have e8 : up2 σ7 75 6 (0 : Int32) 75 8 = 0 := by rw [up2_slot _ _ (by decide)]; exact v1.1
      rw [e8, up2_slot _ _ (by decide), e8, if_pos (by decide)] at e
      have hR : R7 B (up2 (up2 σ7 75 6 0) 75 7 0) := (v2.1.k (by rw [up2_cell _ _ _ (by decide), up2_cell _ _ _ (by decide)]))
      obtain ⟨⟨x8, s'⟩, r1, r2, r3⟩ := m_take hR
      dsimp only at r2 r3
      have k3 : s' 75 3 = nI (B 41) := by rw [r3 _ _ (by unfold Pgp; omega), up2_slot _ _ (by decide), up2_slot _ _ (by decide)]; exact v2.2.1
      refine ⟨s', r2, r3, ?_⟩
      rw [e, r1, Option.bind_some]
      dsimp only
      rw [k3]
      rfl
    · have hfin : fin (.inr (t, B)) = .inl (6, t.2.1) := by
        show (if hiS B (B 40) ≤ B 41 then (.inr (t, B) : Sx) else .inl (6, t.2.1)) = _
        rw [if_neg c]
      rw [hfin]
      obtain ⟨f1, f2⟩ := m_fails (c := 6) (by omega) (by omega) v1.1 v1.2.2.1
      refine ⟨f_X10_fails 6 σ7, hA7.a f2, fun q' hq => ?_, fun t' B' hq => by cases hq⟩
      injection hq with hq
      subst hq
      refine ⟨f1, ?_⟩
      rw [if_neg (fun z => c (hlt.mp z))] at e
      rw [e]
      exact bad (6, t.2.1) _ f1
theorem x_keptNo {σ : Sg} : wh b_X9_text_58 4096 ((0 : Int32), σ) = some (nI 2, up2 (up2 σ 35 0 0) 35 1 0) := by
  have h0 : b_X9_text_58 ((0 : Int32), σ) = some (.inl (nI 1, up2 σ 35 0 0)) := rfl
  have h1 : ∀ s : Sg, b_X9_text_58 (nI 1, s) = some (.inl (nI 2, up2 s 35 1 0)) := fun s => rfl
  have h2 : ∀ s : Sg, b_X9_text_58 (nI 2, s) = some (.inr (nI 2, s)) := fun s => rfl
  rw [show (4096 : Nat) = 4093 + 1 + 1 + 1 from rfl]
  unfold wh
  rw [h0]
  dsimp only
  unfold wh
  rw [h1]
  dsimp only
  unfold wh
  rw [h2]
theorem op_text {σ : Sg} (h : Inv σ) : Op (f_X9_text σ) f_X10_text := by
  obtain ⟨A, I, h⟩ := h
  obtain ⟨h1, h2, h3, h4, h5, ⟨n, t1, t2, t3, t4⟩, h7, h8, h9, h10, h11⟩ := id h
  obtain ⟨b, hb⟩ : ∃ b : Nat → Nat, ∀ i, i < n → b i ≤ 127 ∧ σ 55 i = nI (b i) ∧ σ 78 i = nI (b i) := by
    refine ⟨fun i => (σ 55 i).toNatClampNeg, fun i hi => ?_⟩
    obtain ⟨k, q1, q2, q3⟩ := t4 i hi
    dsimp only
    rw [q2, nI_clamp (by omega)]
    exact ⟨q1, rfl, q3⟩
  have hTX : TX b n σ := ⟨t1, t2, fun i hi => ⟨(hb i hi).1, (hb i hi).2.1⟩⟩
  obtain ⟨K, hK, hh, hf⟩ := stK_end (b := b) t1
  obtain ⟨⟨r, σ1⟩, e1, q1, q2, q3⟩ := x_readAll hTX hK hh hf
  dsimp only at q1 q2 q3
  have hso := stK_ok (b := b) (n := n) K hf
  -- what the reference sees: only cells 0, 1 to 9, 30, 35, 54, 56 to 65 have changed
  have ref : ∀ σ2 : Sg, Agr (fun c j => (c = 0 ∧ j = 11) ∨ (1 ≤ c ∧ c ≤ 9) ∨ (c = 30 ∧ j = 3) ∨ c = 35 ∨ (c = 54 ∧ j = 1) ∨ (56 ≤ c ∧ c ≤ 65)) σ σ2 → TM b n σ2 ∧ Cst σ2 := fun σ2 ha => ⟨⟨t1, by rw [ha _ _ (by omega)]; exact t3, fun i hi => ⟨(hb i hi).1, by rw [ha _ _ (by omega)]; exact (hb i hi).2.2⟩⟩, h11.ag ha (fun c j z => by omega)⟩
  have hdr : Agr (fun c j => (c = 0 ∧ j = 11) ∨ (1 ≤ c ∧ c ≤ 9) ∨ (c = 30 ∧ j = 3) ∨ c = 35 ∨ (c = 54 ∧ j = 1) ∨ (56 ≤ c ∧ c ≤ 65)) σ σ1 := Agr.fr q3 (fun c j z => by unfold dr slp at z; omega)
  have ex : f_X9_text σ = (if (up2 (up2 σ1 54 1 (0 : Int32)) 0 11 (σ1 56 1)) 0 11 = 0 then
    app (f_X7_copyFrom 1 57 (up2 (up2 σ1 54 1 (0 : Int32)) 0 11 (σ1 56 1))) fun (σ6 : Sg) =>
    app (up2 σ6 30 3 (0 : Int32)) fun (σ7 : Sg) =>
    (wh b_X9_text_58 4096 ((0 : Int32), σ7)).bind fun (e11 : (Int32 × Sg)) =>
    some e11.2
  else
    some (up2 (up2 σ1 54 1 (0 : Int32)) 0 11 (σ1 56 1))).bind fun (j4 : Sg) =>
  some (r, j4) := by
    unfold f_X9_text
    rw [e1, Option.bind_some]
    simp only [app]
    rw [show up2 σ1 54 1 (0 : Int32) 56 1 = σ1 56 1 from by rw [up2_cell _ _ _ (by decide)]]
  rw [up2_same] at ex
  cases hfin : fin (stK b n K) with
  | inl q =>
    rw [hfin] at q1 q2
    obtain ⟨x1, -⟩ := q2
    rw [if_neg x1.ne, Option.bind_some, x1.2.2.1] at ex
    have hA1 : Agr (fun c j => (c = 0 ∧ j = 11) ∨ (c = 54 ∧ j = 1) ∨ (56 ≤ c ∧ c ≤ 65)) σ (up2 (up2 σ1 54 1 (0 : Int32)) 0 11 (nI q.1)) := ((Agr.fr q3 (fun c j z => by unfold dr slp at z; omega)).up (by omega)).up (by omega)
    obtain ⟨m1, m2⟩ := ref _ (hA1.mono (fun c j z => by omega))
    obtain ⟨s, a1, a2, -⟩ := m_text m1 m2 hK hh hf
    obtain ⟨a3, a4⟩ := a2 q hfin
    have hS : Agr (fun c j => (c = 0 ∧ j = 11) ∨ (c = 54 ∧ j = 1) ∨ (56 ≤ c ∧ c ≤ 65) ∨ (c = 75 ∧ (j = 3 ∨ j = 4 ∨ (6 ≤ j ∧ j ≤ 13))) ∨ c = 77) σ (up2 (up2 s 75 6 0) 75 7 (nI q.1)) := (((hA1.mono (fun c j z => by omega)).tr (Agr.mono a1 (fun c j z => by unfold T7 at z; omega))).up (by omega)).up (by omega)
    refine ⟨_, _, _, ex, by rw [q1]; exact a4, A, I, h1.ag hS (fun c j z => by omega), h2.ag hS (fun j z => by omega), by rw [hS _ _ (by omega)]; exact h3, h4, fun k hk => (h5 k hk).ag hS (fun c j z => by omega), ⟨0, by omega, ?_, ?_, fun i hi => absurd hi (Nat.not_lt_zero _)⟩, h7.ag hS (fun c j z => by omega), ?_, by rw [hS _ _ (by omega), hS _ _ (by omega)]; exact h9, h10.ag hS (fun c j z => by omega), h11.ag hS (fun c j z => by omega)⟩
    · rw [up2_cell _ _ _ (by decide), up2_cell _ _ _ (by decide), a1 _ _ (by unfold T7; omega), up2_cell _ _ _ (by decide), up2_same]; rfl
    · rw [up2_slot _ _ (by decide), up2_same]; rfl
    · rw [up2_same, up2_cell _ _ _ (by decide), up2_cell _ _ _ (by decide), a1 _ _ (by unfold T7; omega), up2_same]
  | inr p =>
    obtain ⟨t, B⟩ := p
    rw [hfin] at q1 q2
    obtain ⟨x1, x2⟩ := q2
    dsimp only at x1 x2
    rw [if_pos x1.1, x1.1] at ex
    -- the page
    have hWB : WF B := by
      cases hs : stK b n K with
      | inl q => rw [hs] at hfin; cases hfin
      | inr p =>
        obtain ⟨t', B'⟩ := p
        rw [hs] at hso hfin
        by_cases c : hiS B' (B' 40) ≤ B' 41
        · have hfin' : (if hiS B' (B' 40) ≤ B' 41 then (.inr (t', B') : Sx) else .inl (6, t'.2.1)) = .inr (t, B) := hfin
          rw [if_pos c] at hfin'
          injection hfin' with hf1
          injection hf1 with hf1 hf2
          subst hf2
          exact ⟨hso.1, (hiS_le _).mp c⟩
        · have hfin' : (if hiS B' (B' 40) ≤ B' 41 then (.inr (t', B') : Sx) else .inl (6, t'.2.1)) = .inr (t, B) := hfin
          rw [if_neg c] at hfin'
          cases hfin'
    have hX2 : RX 57 B (up2 (up2 σ1 54 1 (0 : Int32)) 0 11 0) := (x2.keep (fun k hk => up2_cell _ _ _ (by omega))).keep (fun k hk => up2_cell _ _ _ (by omega))
    have hA1 : Agr (fun c j => (c = 0 ∧ j = 11) ∨ (c = 54 ∧ j = 1) ∨ (56 ≤ c ∧ c ≤ 65)) σ (up2 (up2 σ1 54 1 (0 : Int32)) 0 11 0) := ((Agr.fr q3 (fun c j z => by unfold dr slp at z; omega)).up (by omega)).up (by omega)
    have z54 : (up2 (up2 σ1 54 1 (0 : Int32)) 0 11 0) 54 1 = 0 := by rw [up2_cell _ _ _ (by decide), up2_same]
    have z011 : (up2 (up2 σ1 54 1 (0 : Int32)) 0 11 0) 0 11 = 0 := up2_same _ _ _ _
    generalize up2 (up2 σ1 54 1 (0 : Int32)) 0 11 0 = u at ex hX2 hA1 z54 z011
    obtain ⟨g1, g2⟩ := x_copyFrom (b := 1) hX2 hWB.1 (by omega)
    generalize hv : f_X7_copyFrom 1 57 u = v at g1 g2
    have ex2 : f_X9_text σ = some (r, up2 (up2 (up2 v 30 3 0) 35 0 0) 35 1 0) := by
      rw [ex, hv]
      simp only [app]
      rw [x_keptNo, Option.bind_some, Option.bind_some]
    have hA2 : Agr (fun c j => (c = 0 ∧ j = 11) ∨ (1 ≤ c ∧ c ≤ 9) ∨ (c = 30 ∧ j = 3) ∨ c = 35 ∨ (c = 54 ∧ j = 1) ∨ (56 ≤ c ∧ c ≤ 65)) σ (up2 (up2 (up2 v 30 3 0) 35 0 0) 35 1 0) := (((Agr.tr (hA1.mono (fun c j z => by omega)) (Agr.fr g2 (fun c j z => by unfold slp at z; omega))).up (by omega)).up (by omega)).up (by omega)
    have y1 : RX 1 B (up2 (up2 (up2 v 30 3 0) 35 0 0) 35 1 0) := ((g1.keep (fun k hk => up2_cell _ _ _ (by omega))).keep (fun k hk => up2_cell _ _ _ (by omega))).keep (fun k hk => up2_cell _ _ _ (by omega))
    have y54 : (up2 (up2 (up2 v 30 3 0) 35 0 0) 35 1 0) 54 1 = 0 := by rw [up2_cell _ _ _ (by decide), up2_cell _ _ _ (by decide), up2_cell _ _ _ (by decide), g2 54 (by unfold slp; omega)]; exact z54
    have y011 : (up2 (up2 (up2 v 30 3 0) 35 0 0) 35 1 0) 0 11 = 0 := by rw [up2_cell _ _ _ (by decide), up2_cell _ _ _ (by decide), up2_cell _ _ _ (by decide), g2 0 (by unfold slp; omega)]; exact z011
    have y30 : (up2 (up2 (up2 v 30 3 0) 35 0 0) 35 1 0) 30 3 = 0 := by rw [up2_cell _ _ _ (by decide), up2_cell _ _ _ (by decide), up2_same]
    have y350 : (up2 (up2 (up2 v 30 3 0) 35 0 0) 35 1 0) 35 0 = 0 := by rw [up2_slot _ _ (by decide), up2_same]
    have y351 : (up2 (up2 (up2 v 30 3 0) 35 0 0) 35 1 0) 35 1 = 0 := up2_same _ _ _ _
    generalize up2 (up2 (up2 v 30 3 0) 35 0 0) 35 1 0 = w at ex2 hA2 y1 y54 y011 y30 y350 y351
    obtain ⟨m1, m2⟩ := ref _ hA2
    obtain ⟨s, a1, -, a2⟩ := m_text m1 m2 hK hh hf
    obtain ⟨s', b1, b2, b3⟩ := a2 t B hfin
    have hT : Agr (fun c j => (c = 75 ∧ (j = 1 ∨ j = 3 ∨ j = 4 ∨ (6 ≤ j ∧ j ≤ 13) ∨ j = 22)) ∨ c = 77 ∨ (c = 76 ∧ j < 41) ∨ c = 84) w (up2 (up2 (up2 (up2 s' 75 1 (nI (B 41))) 75 22 0) 84 0 0) 84 1 0) := ((((((((Agr.mono a1 (fun c j z => by unfold T7 at z; omega)).up (by omega)).up (by omega)).tr (b2.mono (fun c j z => by unfold Pgp at z; omega))).up (by omega)).up (by omega)).up (by omega)).up (by omega))
    have hS := (hA2.mono (T := fun c j => (c = 0 ∧ j = 11) ∨ (1 ≤ c ∧ c ≤ 9) ∨ (c = 30 ∧ j = 3) ∨ c = 35 ∨ (c = 54 ∧ j = 1) ∨ (56 ≤ c ∧ c ≤ 65) ∨ (c = 75 ∧ (j = 1 ∨ j = 3 ∨ j = 4 ∨ (6 ≤ j ∧ j ≤ 13) ∨ j = 22)) ∨ c = 77 ∨ (c = 76 ∧ j < 41) ∨ c = 84) (fun c j z => by omega)).tr (hT.mono (fun c j z => by omega))
    have k757 : (up2 (up2 (up2 (up2 s' 75 1 (nI (B 41))) 75 22 0) 84 0 0) 84 1 0) 75 7 = 0 := by rw [up2_cell _ _ _ (by decide), up2_cell _ _ _ (by decide), up2_slot _ _ (by decide), up2_slot _ _ (by decide), b2 _ _ (by unfold Pgp; omega), up2_same]
    have k756 : (up2 (up2 (up2 (up2 s' 75 1 (nI (B 41))) 75 22 0) 84 0 0) 84 1 0) 75 6 = 0 := by rw [up2_cell _ _ _ (by decide), up2_cell _ _ _ (by decide), up2_slot _ _ (by decide), up2_slot _ _ (by decide), b2 _ _ (by unfold Pgp; omega), up2_slot _ _ (by decide), up2_same]
    have k751 : (up2 (up2 (up2 (up2 s' 75 1 (nI (B 41))) 75 22 0) 84 0 0) 84 1 0) 75 1 = nI (B 41) := by rw [up2_cell _ _ _ (by decide), up2_cell _ _ _ (by decide), up2_slot _ _ (by decide), up2_same]
    have k7522 : (up2 (up2 (up2 (up2 s' 75 1 (nI (B 41))) 75 22 0) 84 0 0) 84 1 0) 75 22 = 0 := by rw [up2_cell _ _ _ (by decide), up2_cell _ _ _ (by decide), up2_same]
    have k840 : (up2 (up2 (up2 (up2 s' 75 1 (nI (B 41))) 75 22 0) 84 0 0) 84 1 0) 84 0 = 0 := by rw [up2_slot _ _ (by decide), up2_same]
    have k841 : (up2 (up2 (up2 (up2 s' 75 1 (nI (B 41))) 75 22 0) 84 0 0) 84 1 0) 84 1 = 0 := up2_same _ _ _ _
    have kM : RM 0 B (up2 (up2 (up2 (up2 s' 75 1 (nI (B 41))) 75 22 0) 84 0 0) 84 1 0) := b1.keep (by rw [up2_cell _ _ _ (by decide), up2_cell _ _ _ (by decide), up2_cell _ _ _ (by decide), up2_cell _ _ _ (by decide)])
    generalize up2 (up2 (up2 (up2 s' 75 1 (nI (B 41))) 75 22 0) 84 0 0) 84 1 0 = z at b3 hT hS k757 k756 k751 k7522 k840 k841 kM
    refine ⟨_, _, _, ex2, by rw [q1]; exact b3, B, I, y1.ag hT (fun c j q => by omega), kM, k751, hWB, fun k hk => Or.inl ?_, ⟨0, by omega, ?_, k756, fun i hi => absurd hi (Nat.not_lt_zero _)⟩, ⟨0, by omega, ?_, k7522, fun i hi => absurd hi (Nat.not_lt_zero _)⟩, ?_, by rw [hS _ _ (by omega), hS _ _ (by omega)]; exact h9, h10.ag hS (fun c j q => by omega), h11.ag hS (fun c j q => by omega)⟩
    · rw [hT _ _ (by omega)]
      rcases (show k = 0 ∨ k = 1 by omega) with rfl | rfl
      · exact ⟨y350, k840⟩
      · exact ⟨y351, k841⟩
    · rw [hT _ _ (by omega)]; exact y54
    · rw [hT _ _ (by omega)]; exact y30
    · rw [hT _ _ (by omega), k757]; exact y011
