/-! count, and the calls that only look -/
def sm (f : Nat → Nat) : Nat → Nat
  | 0 => 0
  | n + 1 => sm f n + f n
theorem cnt_s (P : Nat → Bool) (n : Nat) : cnt P (n + 1) = cnt P n + if P n = true then 1 else 0 := rfl
theorem x_pegsOfRag {A : Pg} {σ : Sg} (h : RX 1 A σ) (hW : WFs A) : f_X7_pegsOfRag 1 0 σ = some (nI (cnt (fun i => decide (A (7 + i) = 0)) (A 38))) := by
  have w1 := hW.1
  have key : Ok (f_X7_pegsOfRag 1 0 σ) (fun y => y = nI (cnt (fun i => decide (A (7 + i) = 0)) (A 38))) := by
    unfold f_X7_pegsOfRag
    refine ok_bind (Q := fun e => e.1 = nI (cnt (fun i => decide (A (7 + i) = 0)) (A 38))) ?_ (fun e he => ok_some he)
    refine wh_0 (P := fun k s => s.1 = nI (cnt (fun i => decide (A (7 + i) = 0)) k) ∧ s.2 = nI k) (A 38) (by omega) ⟨rfl, rfl⟩ ?_
    rintro k ⟨m, i⟩ hk ⟨e1, e2⟩
    dsimp at e1 e2
    subst e1 e2
    unfold b_X7_pegsOfRag_4
    dsimp +instances only
    rw [h.1]
    by_cases hlt : k < A 38
    · left
      refine ⟨hlt, ok_f (nnle hlt (by omega)) (ok_in (vp_in_nI (by omega) (by omega)) (ok_app (ok_some ⟨_, rfl, ?_, nI_1 _⟩)))⟩
      have hr := (hW.2.2.2.2.1 k hlt).2
      rw [nI_clamp (by omega), (h.2.2.2.2.1 k hlt).2]
      rw [cnt_s]
      by_cases z : A (7 + k) = 0
      · rw [if_pos (by rw [z]; rfl), if_pos (by simp [z])]; exact nI_1 _
      · rw [if_neg (show ¬ nI (A (7 + k)) = 0 from nne (b := 0) z (by omega) (by omega)), if_neg (by simp [z])]; rfl
    · right
      obtain rfl : k = A 38 := by omega
      exact ok_t (nle (Nat.le_refl _) (by omega)) (ok_some ⟨_, rfl, rfl⟩)
  obtain ⟨y, e, rfl⟩ := key
  exact e
theorem x_speedOfAll {A : Pg} {σ : Sg} (h : RX 1 A σ) (hW : WFs A) : f_X7_speedOfAll 1 σ = some (nI (sm (fun i => A (22 + i)) (A 41))) := by
  have w1 := hW.2.2.2.1
  have key : Ok (f_X7_speedOfAll 1 σ) (fun y => y = nI (sm (fun i => A (22 + i)) (A 41))) := by
    unfold f_X7_speedOfAll
    refine ok_bind (Q := fun e => e.1 = nI (sm (fun i => A (22 + i)) (A 41))) ?_ (fun e he => ok_some he)
    refine wh_0 (P := fun k s => s.1 = nI (sm (fun i => A (22 + i)) k) ∧ s.2 = nI k) (A 41) (by omega) ⟨rfl, rfl⟩ ?_
    rintro k ⟨m, i⟩ hk ⟨e1, e2⟩
    dsimp at e1 e2
    subst e1 e2
    unfold b_X7_speedOfAll_4
    dsimp +instances only
    rw [h.2.2.1]
    by_cases hlt : k < A 41
    · left
      refine ⟨hlt, ok_f (nnle hlt (by omega)) (ok_in (vp_in_nI (by omega) (by omega)) (ok_app (ok_some ⟨_, rfl, ?_, nI_1 _⟩)))⟩
      rw [nI_clamp (by omega), (h.2.2.2.2.2.2.1 k hlt).2]
      exact nI_add _ _
    · right
      obtain rfl : k = A 41 := by omega
      exact ok_t (nle (Nat.le_refl _) (by omega)) (ok_some ⟨_, rfl, rfl⟩)
  obtain ⟨y, e, rfl⟩ := key
  exact e
theorem c38' : (38 : Int32).toNatClampNeg = 38 := rfl
theorem m_count4 {A : Pg} {σ : Sg} (h : RM 0 A σ) (hW : WFs A) : Ok (wh (b_X10_count_7 σ) 4096 ((0 : Int32), (0 : Int32))) (fun e => e.1 = nI (cnt (fun i => decide (A (7 + i) = 0)) (A 38))) := by
  have w1 := hW.1
  refine wh_0 (P := fun k s => s.1 = nI (cnt (fun i => decide (A (7 + i) = 0)) k) ∧ s.2 = nI k) (A 38) (by omega) ⟨rfl, rfl⟩ ?_
  rintro k ⟨m, i⟩ hk ⟨e1, e2⟩
  dsimp at e1 e2
  subst e1 e2
  unfold b_X10_count_7
  dsimp +instances only
  rw [c38', zrm h (by omega)]
  by_cases hlt : k < A 38
  · left
    rw [show (7 : Int32) = nI 7 from rfl, nI_add]
    refine ⟨hlt, ok_f (nnle hlt (by omega)) (ok_in (vp_in_nI (by omega) (by omega)) (ok_app (ok_some ⟨_, rfl, ?_, nI_1 _⟩)))⟩
    have hr := (hW.2.2.2.2.1 k hlt).2
    rw [nI_clamp (by omega), zrm h (by omega)]
    rw [cnt_s]
    by_cases z : A (7 + k) = 0
    · rw [if_pos (by rw [z]; rfl), if_pos (by simp [z])]; exact nI_1 _
    · rw [if_neg (show ¬ nI (A (7 + k)) = 0 from nne (b := 0) z (by omega) (by omega)), if_neg (by simp [z])]; exact nI_add _ 0
  · right
    obtain rfl : k = A 38 := by omega
    exact ok_t (nle (Nat.le_refl _) (by omega)) (ok_some ⟨_, rfl, rfl⟩)
theorem m_count5 {A : Pg} {σ : Sg} (h : RM 0 A σ) (hW : WFs A) (h75 : σ 75 1 = nI (A 41)) : Ok (wh (b_X10_count_49 σ) 4096 ((0 : Int32), (0 : Int32))) (fun e => e.1 = nI (sm (fun i => A (22 + i)) (A 41))) := by
  have w1 := hW.2.2.2.1
  refine wh_0 (P := fun k s => s.1 = nI (sm (fun i => A (22 + i)) k) ∧ s.2 = nI k) (A 41) (by omega) ⟨rfl, rfl⟩ ?_
  rintro k ⟨m, i⟩ hk ⟨e1, e2⟩
  dsimp at e1 e2
  subst e1 e2
  unfold b_X10_count_49
  dsimp +instances only
  rw [h75]
  by_cases hlt : k < A 41
  · left
    rw [show (22 : Int32) = nI 22 from rfl, nI_add]
    refine ⟨hlt, ok_f (nnle hlt (by omega)) (ok_in (vp_in_nI (by omega) (by omega)) (ok_app (ok_some ⟨_, rfl, ?_, nI_1 _⟩)))⟩
    rw [nI_clamp (by omega), zrm h (by omega)]
    exact nI_add _ _
  · right
    obtain rfl : k = A 41 := by omega
    exact ok_t (nle (Nat.le_refl _) (by omega)) (ok_some ⟨_, rfl, rfl⟩)
theorem x_keptImages {σ : Sg} : f_X9_keptImages σ = some ((if σ 35 0 = 0 then (0 : Int32) else 1) + (if σ 35 1 = 0 then (0 : Int32) else 1)) := by
  have i0 : inR (0 : Int32) 2 = true := by decide
  have i1 : inR (1 : Int32) 2 = true := by decide
  have b0 : b_X9_keptImages_4 σ (0, 0) = some (.inl (if σ 35 0 = 0 then (0 : Int32) else 1, 1)) := by
    unfold b_X9_keptImages_4
    dsimp +instances only
    rw [if_neg (by decide), if_pos i0]
    by_cases z : σ 35 0 = 0
    · rw [if_pos (show σ 35 (0 : Int32).toNatClampNeg = 0 from z), if_pos z]; rfl
    · rw [if_neg (show ¬ σ 35 (0 : Int32).toNatClampNeg = 0 from z), if_neg z]; rfl
  have b1 : ∀ m : Int32, b_X9_keptImages_4 σ (m, 1) = some (.inl (m + (if σ 35 1 = 0 then (0 : Int32) else 1), 2)) := fun m => by
    unfold b_X9_keptImages_4
    dsimp +instances only
    rw [if_neg (by decide), if_pos i1]
    by_cases z : σ 35 1 = 0
    · rw [if_pos (show σ 35 (1 : Int32).toNatClampNeg = 0 from z), if_pos z, Int32.add_zero]; rfl
    · rw [if_neg (show ¬ σ 35 (1 : Int32).toNatClampNeg = 0 from z), if_neg z]; rfl
  have b2 : ∀ m : Int32, b_X9_keptImages_4 σ (m, 2) = some (.inr (m, 2)) := fun m => by
    unfold b_X9_keptImages_4
    dsimp +instances only
    rw [if_pos (by decide)]
  unfold f_X9_keptImages
  rw [show (4096 : Nat) = 4093 + 1 + 1 + 1 from rfl, wh, b0]
  dsimp only
  rw [wh, b1]
  dsimp only
  rw [wh, b2]
  rfl
theorem op_count {σ : Sg} (h : Inv σ) (a : Int32) : ∃ r, f_X9_count a σ = some r ∧ f_X10_count a σ = some r := by
  obtain ⟨A, I, h⟩ := h
  obtain ⟨h1, h2, h3, h4, h5, ⟨n, t1, t2, t3, t4⟩, ⟨m, s1, s2, s3, s4⟩, h8, h9, h10, h11⟩ := id h
  obtain ⟨⟨u, u'⟩, p1, p2⟩ := m_count4 h2 h4.1
  obtain ⟨⟨v, v'⟩, q1, q2⟩ := m_count5 h2 h4.1 h3
  dsimp at p2 q2
  subst p2 q2
  unfold f_X9_count f_X10_count
  rw [p1, q1]
  simp only [Option.bind_some]
  by_cases e0 : a = 0
  · exact ⟨nI m, by rw [if_pos e0, s2], by rw [if_pos e0, s3]⟩
  rw [if_neg e0, if_neg e0]
  by_cases e1 : a = 1
  · refine ⟨_, by rw [if_pos e1, x_keptImages, Option.bind_some], ?_⟩
    rw [if_pos e1]
    have y : ∀ k, k < 2 → (if σ 84 k = 0 then (0 : Int32) else 1) = if σ 35 k = 0 then (0 : Int32) else 1 := fun k hk => by
      rcases h5 k hk with ⟨z1, z2⟩ | ⟨z1, z2, -⟩
      · rw [z1, z2]
      · rw [z1, z2]
    simp only [app]
    rw [show (0 : Int32).toNatClampNeg = 0 from rfl, show (1 : Int32).toNatClampNeg = 1 from rfl, y 0 (by omega), y 1 (by omega)]
  rw [if_neg e1, if_neg e1]
  by_cases e2 : a = 2
  · exact ⟨nI n, by rw [if_pos e2, t2], by rw [if_pos e2, t3]⟩
  rw [if_neg e2, if_neg e2]
  by_cases e3 : a = 3
  · obtain ⟨l, k, z1, z2, z3, z4, z5, z6, -⟩ := h10 0 (by omega)
    rw [if_pos e3, if_pos e3]
    rw [Nat.mul_zero, Nat.add_zero] at z3 z5
    by_cases hl : l = 0
    · subst hl
      exact ⟨-4, by rw [z3, if_pos (by decide)], by rw [show (0 : Int32).toNatClampNeg = 0 from rfl, z4, if_pos rI_0]⟩
    · rw [if_neg hl] at z3
      exact ⟨nI k, by rw [z3, if_neg (nneg1 (by omega)), z5], by rw [show (0 : Int32).toNatClampNeg = 0 from rfl, z4, if_neg (fun q => hl ((rI_none (by omega)).mp q)), z6]⟩
  rw [if_neg e3, if_neg e3]
  by_cases e4 : a = 4
  · exact ⟨_, by rw [if_pos e4, x_pegsOfRag h1 h4.1, Option.bind_some], by rw [if_pos e4]⟩
  rw [if_neg e4, if_neg e4]
  by_cases e5 : a = 5
  · exact ⟨_, by rw [if_pos e5, x_speedOfAll h1 h4.1, Option.bind_some], by rw [if_pos e5]⟩
  · exact ⟨-1, by rw [if_neg e5], by rw [if_neg e5]⟩
theorem op_wins {σ : Sg} (h : Inv σ) (a : Int32) : Op (f_X9_wins a σ) (f_X10_wins a) := by
  obtain ⟨A, I, h⟩ := h
  by_cases hv : vp_in a 4
  · obtain ⟨i, hi, rfl⟩ := vin_nI hv (by omega)
    refine op_q h (r := nI (bm (fun j => decide (Wn A (gOf A) j = i + 1)) (A 40))) ?_ (fun σ1 h' => ?_)
    · unfold f_X9_wins
      rw [xRag.1 hv, if_neg z10]
      exact ok_bind (x_wonBy h.1.g h.2.2.2.1 gOf_lt2 hi) (fun y hy => ok_some ⟨hy.1, sx hy.2 (Or.inl rfl)⟩)
    · unfold f_X10_wins
      rw [mRag.1 hv, if_neg z10]
      exact ok_bind (m_wins (p := 0) h'.2.1 (by omega) h'.2.2.2.1 hi) (fun y hy => ok_some ⟨hy.1, Same.m hy.2⟩)
  · refine op_0 h (r := -1) ?_ ?_
    · unfold f_X9_wins
      rw [xRag.2 hv, if_pos rfl]
    · unfold f_X10_wins
      rw [mRag.2 hv, if_pos rfl]
theorem op_share {σ : Sg} (h : Inv σ) (a b : Int32) : Op (f_X9_share a b σ) (f_X10_share a b) := by
  obtain ⟨A, I, h⟩ := h
  have w4 := h.2.2.2.1.1.2.2.2.1
  have xh := xHog (x := a) h.1.2.2.1 (by omega)
  have mh := mHog (x := a) h.2.2.1 (by omega)
  by_cases hv : vp_in a (A 41)
  · by_cases hb : vp_in b 4
    · obtain ⟨i, hi, rfl⟩ := vin_nI hv (by omega)
      obtain ⟨k, hk, rfl⟩ := vin_nI hb (by omega)
      refine op_q h (r := nI (cnt (fun c => decide (wc A (gOf A) i c = k + 1)) 8)) ?_ (fun σ1 h' => ?_)
      · unfold f_X9_share
        rw [xh.1 hv, xRag.1 hb, if_neg z10, if_neg z10]
        exact ok_bind (x_winningColumns h.1.g h.2.2.2.1.1 gOf_lt2 hi hk) (fun y hy => ok_some ⟨by dsimp only; rw [hy.1, x_bc _ (bm_1024 _ (by omega)), pop_bm _ _ (by omega)], sx hy.2 (Or.inl rfl)⟩)
      · unfold f_X10_share
        rw [(mHog (x := nI i) h'.2.2.1 (by omega)).1 hv, mRag.1 hb, if_neg z10, if_neg z10]
        exact ok_bind (m_share h'.2.1 h'.2.2.2.1.1 hi hk) (fun y hy => ok_some ⟨hy.1, Same.m hy.2⟩)
    · refine op_0 h (r := -1) ?_ ?_
      · unfold f_X9_share
        rw [xh.1 hv, xRag.2 hb, if_neg z10, if_pos rfl]
      · unfold f_X10_share
        rw [mh.1 hv, mRag.2 hb, if_neg z10, if_pos rfl]
  · refine op_0 h (r := -1) ?_ ?_
    · unfold f_X9_share
      rw [xh.2 hv, if_pos rfl]
    · unfold f_X10_share
      rw [mh.2 hv, if_pos rfl]
theorem op_first {σ : Sg} (h : Inv σ) (a b : Int32) : Op (f_X9_first a b σ) (f_X10_first a b) := by
  obtain ⟨A, I, h⟩ := h
  have w4 := h.2.2.2.1.1.2.2.2.1
  have xh := xHog (x := a) h.1.2.2.1 (by omega)
  have mh := mHog (x := a) h.2.2.1 (by omega)
  by_cases hv : vp_in a (A 41)
  · by_cases hb : vp_in b 4
    · obtain ⟨i, hi, rfl⟩ := vin_nI hv (by omega)
      obtain ⟨k, hk, rfl⟩ := vin_nI hb (by omega)
      obtain ⟨⟨m, σ1⟩, f1, f2, f3⟩ := x_winningColumns h.1.g h.2.2.2.1.1 gOf_lt2 hi hk
      dsimp at f2 f3
      subst f2
      have hs1 := sx f3 (Or.inl rfl)
      have h' := h.same hs1
      obtain ⟨y, g1, g2⟩ := m_first h'.2.1 h'.2.2.2.1.1 hi hk
      have ex : f_X9_first (nI i) (nI k) σ = if nI (bm (fun c => decide (wc A (gOf A) i c = k + 1)) 8) = 0 then some (-4, σ1) else some (f_J6_numberOfTrailingZeros_0f7a4 (nI (bm (fun c => decide (wc A (gOf A) i c = k + 1)) 8)), σ1) := by
        unfold f_X9_first
        rw [xh.1 hv, xRag.1 hb, if_neg z10, if_neg z10, f1, Option.bind_some]
      have em : f_X10_first (nI i) (nI k) σ1 = Sum.elim (fun (e7 : (Int32 × Sg)) => some ((-4 : Int32), e7.2)) (fun (y8 : (Int32 × Sg)) => some y8) y := by
        unfold f_X10_first
        rw [(mHog (x := nI i) h'.2.2.1 (by omega)).1 hv, mRag.1 hb, if_neg z10, if_neg z10, g1, Option.bind_some]
      have hbm := bm_1024 (fun c => decide (wc A (gOf A) i c = k + 1)) (n := 8) (by omega)
      rcases g2 with ⟨⟨z, s⟩, rfl, hF, hno⟩ | ⟨⟨z, s⟩, j, rfl, hF, hj, e1, e2, e3⟩
      · refine ⟨-4, σ1, s, ?_, ?_, A, I, h'.same (Same.m hF)⟩
        · rw [ex, bm_zero.mpr (fun c hc => by simp [hno c hc]), if_pos (show nI 0 = 0 from rfl)]
        · rw [em]; rfl
      · dsimp at hF e1
        subst e1
        refine ⟨nI j, σ1, s, ?_, ?_, A, I, h'.same (Same.m hF)⟩
        · rw [ex, if_neg, bm_first 8 (by omega) j hj (by simp [e2]) (fun c hc => by simp [e3 c hc])]
          intro q
          have q2 := (nI_eq (b := 0) (by omega) (by omega)).mp q
          have q3 := bm_zero.mp q2 j hj
          simp [e2] at q3
        · rw [em]; rfl
    · refine op_0 h (r := -1) ?_ ?_
      · unfold f_X9_first
        rw [xh.1 hv, xRag.2 hb, if_neg z10, if_pos rfl]
      · unfold f_X10_first
        rw [mh.1 hv, mRag.2 hb, if_neg z10, if_pos rfl]
  · refine op_0 h (r := -1) ?_ ?_
    · unfold f_X9_first
      rw [xh.2 hv, if_pos rfl]
    · unfold f_X10_first
      rw [mh.2 hv, if_pos rfl]
