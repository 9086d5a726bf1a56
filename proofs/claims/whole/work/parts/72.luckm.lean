/-! luck, mean: the reference, and both -/
theorem pr_le {v : Nat} (hv : v ≤ 10) (s : Nat) : ∀ n, pr v s n ≤ 10 ^ n := by
  intro n
  induction n with
  | zero => exact Nat.le_refl _
  | succ n ih =>
    unfold pr
    rw [Nat.pow_succ]
    refine Nat.mul_le_mul ih ?_
    split <;> omega
theorem m_prod {v s : Nat} (hv : v ≤ 10) (hs : s < 1024) (s1 : Int64 × Int32 × Sg) (h1 : s1.2.1 = nI s) : Ok (wh (b_X10_byTurns_25 (nI v) s1) 4096 ((1 : Int64), (0 : Int32))) (fun e => e.1 = qN (pr v s 10)) := by
  refine wh_0 (P := fun t (e : Int64 × Int32) => e.1 = qN (pr v s t) ∧ e.2 = nI t) 10 (by omega) ⟨rfl, rfl⟩ ?_
  rintro t ⟨x, i⟩ ht ⟨e1, e2⟩
  dsimp at e1 e2
  subst e1 e2
  unfold b_X10_byTurns_25
  dsimp +instances only
  rw [h1]
  by_cases hlt : t < 10
  · left
    refine ⟨hlt, ok_f (show ¬ nI 10 ≤ nI t from nnle (by omega) (by omega)) (ok_app (ok_some ⟨_, rfl, ?_, nI_1 _⟩))⟩
    dsimp only
    show _ = qN (pr v s t * (if s.testBit t = true then v else 10 - v))
    by_cases z : s.testBit t = true
    · rw [if_pos ((bit_at t hlt s hs).mpr z), if_pos z, nI_long (by omega), qN_mul]
    · rw [if_neg (fun q => z ((bit_at t hlt s hs).mp q)), if_neg z, tenv v hv, nI_long (by omega), qN_mul]
  · right
    obtain rfl : t = 10 := by omega
    exact ok_t (by decide) (ok_some ⟨_, rfl, rfl⟩)
def oS (s : Nat) : Nat → Bool := fun r => s.testBit r
/-- what is asked: the mean, or the luck of r -/
def Wh (A : Pg) (x : Int32) (a : Nat → Nat) (y : Nat) : Prop := (x = -4 ∧ a = a0 ∧ y = 1) ∨ ∃ r, r < 4 ∧ x = nI r ∧ a = aW A r ∧ y = 0
def vS (A : Pg) (a : Nat → Nat) (y h c s : Nat) : Nat := a (go (gOf A) (A (18 + h)) (oS s) 10 0 c (A (22 + h)) 0).1 + y * (go (gOf A) (A (18 + h)) (oS s) 10 0 c (A (22 + h)) 0).2.2.1
theorem vS_le {A : Pg} {x : Int32} {a : Nat → Nat} {y h c s : Nat} (hw : Wh A x a y) : vS A a y h c s ≤ 10 := by
  have hm := go_met (g := gOf A) (k := A (18 + h)) (o := oS s) 10 0 c (A (22 + h)) 0
  unfold vS
  rcases hw with ⟨-, rfl, rfl⟩ | ⟨r, -, -, rfl, rfl⟩
  · unfold a0
    omega
  · have := aW_le A r (go (gOf A) (A (18 + h)) (oS s) 10 0 c (A (22 + h)) 0).1
    omega
theorem m_sum {A : Pg} {I : Nat → Pg} {σ : Sg} {v h c : Nat} {x : Int32} {a : Nat → Nat} {y : Nat} (hI : InvA A I σ) (hv : v ≤ 10) (hh : h < A 41) (hc : c < 8) (hw : Wh A x a y) :
    Ok (wh (b_X10_byTurns_11 (nI v) (nI h) (nI c) x) 4096 ((0 : Int64), (0 : Int32), σ)) (fun e => e.1 = qN (sm (fun s => pr v s 10 * vS A a y h c s) 1024) ∧ Same σ e.2.2) := by
  have hW := hI.2.2.2.1
  have w1 := hW.1.1
  have w4 := hW.1.2.2.2.1
  have w7 := hW.1.2.2.2.2.2.2.1 h hh
  refine wh_0 (P := fun t (e : Int64 × Int32 × Sg) => e.1 = qN (sm (fun s => pr v s 10 * vS A a y h c s) t) ∧ e.2.1 = nI t ∧ Same σ e.2.2) 1024 (by omega) ⟨rfl, rfl, Same.rf⟩ ?_
  rintro t ⟨acc, i, s⟩ ht ⟨e1, e2, hs⟩
  dsimp at e1 e2 hs
  subst e1 e2
  unfold b_X10_byTurns_11
  dsimp +instances only
  by_cases hlt : t < 1024
  · left
    refine ⟨hlt, ok_f (show ¬ nI 1024 ≤ nI t from nnle (by omega) (by omega)) ?_⟩
    refine ok_bind (m_prod hv hlt (qN (sm (fun s => pr v s 10 * vS A a y h c s) t), nI t, s) rfl) (fun e he => ?_)
    rw [he]
    have hp := pr_le hv t 10
    have h10 : (10 : Nat) ^ 10 = 10000000000 := by decide
    have hvs := vS_le (h := h) (c := c) (s := t) hw
    rw [sm_s] at *
    refine ok_bind (Q := fun j => j.1 = qN (sm (fun s => pr v s 10 * vS A a y h c s) t + pr v t 10 * vS A a y h c t) ∧ Same σ j.2) ?_ (fun j hj => ok_some ⟨_, rfl, hj.1, nI_1 _, hj.2⟩)
    by_cases z : pr v t 10 = 0
    · refine ok_t ((lcmp_le (by omega)).mpr z) (ok_some ⟨?_, hs⟩)
      rw [z, Nat.zero_mul, Nat.add_zero]
    · refine ok_f (fun q => z ((lcmp_le (by omega)).mp q)) ?_
      have hI' := hI.same hs
      have hr := m_runsOn (p := 0) (oth := nI t) (o := oS t) hI'.2.1 (by omega) hW.1 (show h < 4 by omega) w7.1 (by omega) hc (fun r hr => bit_at r hr t hlt)
      refine ok_bind hr (fun u hu => ?_)
      obtain ⟨f1, f2, f3, f4, -⟩ := hu
      have hl := go_lt (k := A (18 + h)) (o := oS t) (gOf_lt2 (A := A)) 10 0 c (A (22 + h)) 0
      have hm := go_met (g := gOf A) (k := A (18 + h)) (o := oS t) 10 0 c (A (22 + h)) 0
      have hM2 : RM 0 A u := hI'.2.1.fr f1
      refine ok_bind (Q := fun j => j = nI (vS A a y h c t)) ?_ (fun j hj => ok_app (ok_some ⟨?_, hs.tr (Same.m f1)⟩))
      · rcases hw with ⟨rfl, rfl, rfl⟩ | ⟨r, hr4, rfl, rfl, rfl⟩
        · refine ok_t rfl (ok_some ?_)
          rw [f4]
          unfold vS a0
          rw [Nat.zero_add, Nat.one_mul]
        · refine ok_f (nneg4 (by omega)) ?_
          rw [f2]
          unfold vS
          rw [Nat.zero_mul, Nat.add_zero]
          generalize (go (gOf A) (A (18 + h)) (oS t) 10 0 c (A (22 + h)) 0).1 = q at hl
          by_cases hq : q = 0
          · refine ok_t (by rw [hq]; rfl) (ok_some ?_)
            unfold aW
            rw [if_neg (fun k => k.1 hq)]
            rfl
          · refine ok_f (fun k => hq ((rI_none (by omega)).mp k)) ?_
            rw [show rI q = nI (q - 1) from by unfold rI; rw [if_neg hq], show (7 : Int32) = nI 7 from rfl, nI_add]
            refine ok_in (vp_in_nI (by omega) (by omega)) ?_
            rw [nI_clamp (by omega), zrm hM2 (by omega)]
            have hrag := (hW.1.2.2.2.2.1 (q - 1) (by omega)).2
            unfold aW
            by_cases hz : A (7 + (q - 1)) = r
            · rw [if_pos (by rw [hz]), if_pos ⟨hq, hz⟩]
              exact ok_some rfl
            · rw [if_neg (fun k => hz ((nI_eq (by omega) (by omega)).mp k)), if_neg (fun k => hz k.2)]
              exact ok_some rfl
      · dsimp only
        rw [hj, nI_long (by omega), qN_mul, qN_add]
  · right
    obtain rfl : t = 1024 := by omega
    exact ok_t (by decide) (ok_some ⟨_, rfl, rfl, hs⟩)
theorem sum_EE {A : Pg} {v y h c : Nat} {a : Nat → Nat} (hv : v ≤ 10) (ha : a 0 = 0) : sm (fun s => pr v s 10 * vS A a y h c s) 1024 = EE (gOf A) (A (18 + h)) v a y 10 0 c (A (22 + h)) := by
  have := sum_go (g := gOf A) (k := A (18 + h)) (y := y) hv ha 10 0 c (A (22 + h)) 0
  rw [Nat.mul_zero, Nat.zero_mul, Nat.zero_add] at this
  rw [← this]
  exact sm_congr (fun s _ => rfl)
/-! lowest terms -/
def GI (G i a b : Nat) : Prop := (0 < a ∨ 0 < b) ∧ Nat.gcd a b = G ∧ a < 2 ^ 40 ∧ b < 2 ^ 40 ∧ (i = 0 ∨ (b < a ∧ a * b * 2 ^ i < 2 ^ 90))
theorem GI_step {G i a b : Nat} (h : GI G i a b) (hb : b ≠ 0) : i < 90 ∧ GI G (i + 1) b (a % b) := by
  obtain ⟨h1, h2, h3, h4, h5⟩ := h
  have hm : a % b < b := Nat.mod_lt _ (by omega)
  have hi : i < 90 := by
    rcases h5 with h5 | ⟨h5, h6⟩
    · omega
    · refine Nat.lt_of_not_le (fun q => ?_)
      have q1 : 2 ^ 90 ≤ 2 ^ i := Nat.pow_le_pow_right (by omega) q
      have q2 : 1 ≤ a * b := Nat.mul_pos (by omega) (by omega)
      have q3 : 1 * 2 ^ i ≤ a * b * 2 ^ i := Nat.mul_le_mul_right _ q2
      omega
  refine ⟨hi, Or.inl (by omega), ?_, h4, by omega, Or.inr ⟨hm, ?_⟩⟩
  · rw [← h2, Nat.gcd_comm b, ← Nat.gcd_rec, Nat.gcd_comm]
  · rcases h5 with h5 | ⟨h5, h6⟩
    · subst h5
      have q1 : b * (a % b) ≤ 2 ^ 40 * 2 ^ 40 := Nat.mul_le_mul (by omega) (by omega)
      have q2 : (2 : Nat) ^ 40 * 2 ^ 40 * 2 < 2 ^ 90 := by decide
      rw [Nat.zero_add, Nat.pow_one]
      omega
    · have hd : 1 ≤ a / b := (Nat.le_div_iff_mul_le (by omega)).mpr (by omega)
      have he := Nat.div_add_mod a b
      have hbd : b * 1 ≤ b * (a / b) := Nat.mul_le_mul_left _ hd
      have q1 : 2 * (a % b) ≤ a := by omega
      have q2 : b * (a % b) * 2 ^ (i + 1) = 2 * (a % b) * b * 2 ^ i := by
        rw [Nat.pow_succ, Nat.mul_comm b, Nat.mul_comm (2 ^ i) 2, ← Nat.mul_assoc, Nat.mul_right_comm (a % b) b 2, Nat.mul_comm (a % b) 2]
      rw [q2]
      have q3 : 2 * (a % b) * b * 2 ^ i ≤ a * b * 2 ^ i := Nat.mul_le_mul_right _ (Nat.mul_le_mul_right _ q1)
      omega
theorem GI_end {G i a : Nat} (h : GI G i a 0) : a = G := by
  have := h.2.1
  rw [Nat.gcd_zero_right] at this
  exact this
theorem GI_pos {G i a b : Nat} (h : GI G i a b) : 0 < G := by
  rw [← h.2.1]
  rcases h.1 with q | q
  · exact Nat.gcd_pos_of_pos_left _ q
  · exact Nat.gcd_pos_of_pos_right _ q
theorem GI_lt {G i a b : Nat} (h : GI G i a b) : G < 2 ^ 40 := by
  obtain ⟨h1, h2, h3, h4, -⟩ := h
  rw [← h2]
  rcases h1 with q | q
  · exact Nat.lt_of_le_of_lt (Nat.gcd_le_left _ q) h3
  · exact Nat.lt_of_le_of_lt (Nat.gcd_le_right _ q) h4
theorem m_gcd {G a b : Nat} (h : GI G 0 a b) : Ok (wh b_X10_lowest_6 4096 (qN a, qN b)) (fun e => e.1 = qN G) := by
  refine wh_1 (P := fun t (e : Int64 × Int64) => ∃ a b, e.1 = qN a ∧ e.2 = qN b ∧ GI G t a b) 90 (by omega) ⟨a, b, rfl, rfl, h⟩ ?_
  rintro t ⟨x, y⟩ ht ⟨a, b, e1, e2, hG⟩
  dsimp at e1 e2
  subst e1 e2
  unfold b_X10_lowest_6
  dsimp +instances only
  have h3 := hG.2.2.1
  have h4 := hG.2.2.2.1
  by_cases z : b = 0
  · refine ok_t ((lcmp_zero (by omega)).mpr z) (ok_some (Or.inr ⟨_, rfl, ?_⟩))
    subst z
    dsimp only
    rw [GI_end hG]
  · refine ok_f (fun q => z ((lcmp_zero (by omega)).mp q)) (ok_t (nzL_pos (by omega) (by omega)) (ok_app (ok_some (Or.inl ⟨(GI_step hG z).1, _, rfl, b, a % b, rfl, ?_, (GI_step hG z).2⟩))))
    dsimp only
    exact qN_mod (by omega) (by omega)
theorem x_gcd {G a b : Nat} (h : GI G 0 a b) : Ok (wh b_X9_lowestTerms_10 4096 (qN a, qN b, (0 : Int32))) (fun e => e.1 = qN G) := by
  refine wh_1 (P := fun t (e : Int64 × Int64 × Int32) => e.2.2 = nI t ∧ ∃ a b, e.1 = qN a ∧ e.2.1 = qN b ∧ GI G t a b) 90 (by omega) ⟨rfl, a, b, rfl, rfl, h⟩ ?_
  rintro t ⟨x, y, i⟩ ht ⟨e0, a, b, e1, e2, hG⟩
  dsimp at e0 e1 e2
  subst e0 e1 e2
  unfold b_X9_lowestTerms_10
  dsimp +instances only
  have h3 := hG.2.2.1
  have h4 := hG.2.2.2.1
  refine ok_f (show ¬ nI 100 ≤ nI t from nnle (by omega) (by omega)) ?_
  by_cases z : b = 0
  · refine ok_t ((lcmp_zero (by omega)).mpr z) (ok_some (Or.inr ⟨_, rfl, ?_⟩))
    subst z
    dsimp only
    rw [GI_end hG]
  · refine ok_f (fun q => z ((lcmp_zero (by omega)).mp q)) (ok_t (nzL_pos (by omega) (by omega)) (ok_app (ok_some (Or.inl ⟨(GI_step hG z).1, _, rfl, nI_1 _, b, a % b, rfl, ?_, (GI_step hG z).2⟩))))
    dsimp only
    exact qN_mod (by omega) (by omega)
theorem D_eq : (10000000000 : Int64) = qN 10000000000 := rfl
def lowQ (u : Nat) (w : Int32) : Int64 := if w = 0 then qN (u / Nat.gcd u 10000000000) else qN (10000000000 / Nat.gcd u 10000000000)
theorem m_low {u : Nat} (hu : u ≤ 110000000000) (w : Int32) : f_X10_lowest (qN u) (10000000000 : Int64) w = some (lowQ u w) := by
  have hG : GI (Nat.gcd u 10000000000) 0 u 10000000000 := ⟨Or.inr (by omega), rfl, by omega, by omega, Or.inl rfl⟩
  have p := GI_pos hG
  have l := GI_lt hG
  obtain ⟨e, e1, e2⟩ := m_gcd hG
  unfold f_X10_lowest lowQ
  rw [D_eq, e1, Option.bind_some]
  simp only [app]
  rw [e2, if_pos (nzL_pos p (by omega))]
  by_cases z : w = 0
  · rw [if_pos z, if_pos z, qN_div (by omega) (by omega)]
  · rw [if_neg z, if_neg z, qN_div (by omega) (by omega)]
theorem x_low {u : Nat} (hu : u ≤ 110000000000) (w : Int32) : f_X9_lowestTerms (qN u) w = some (lowQ u w) := by
  have hG : GI (Nat.gcd u 10000000000) 0 10000000000 u := ⟨Or.inl (by omega), Nat.gcd_comm _ _, by omega, by omega, Or.inl rfl⟩
  have p := GI_pos hG
  have l := GI_lt hG
  obtain ⟨e, e1, e2⟩ := x_gcd hG
  unfold f_X9_lowestTerms lowQ
  rw [D_eq, e1, Option.bind_some, e2, if_pos ((lcmp_pos (by omega)).mpr p)]
  by_cases z : w = 0
  · rw [if_pos z, if_pos z, if_pos (nzL_pos p (by omega)), qN_div (by omega) (by omega)]
  · rw [if_neg z, if_neg z, if_pos (nzL_pos p (by omega)), qN_div (by omega) (by omega)]
theorem m_turns {A : Pg} {I : Nat → Pg} {σ : Sg} {v h c : Nat} {x w : Int32} {a : Nat → Nat} {y : Nat} (hI : InvA A I σ) (hv : v ≤ 10) (hh : h < A 41) (hc : c < 8) (hw : Wh A x a y) :
    Ok (f_X10_byTurns (nI v) (nI h) (nI c) x w σ) (fun e => e.1 = lowQ (EE (gOf A) (A (18 + h)) v a y 10 0 c (A (22 + h))) w ∧ Same σ e.2) := by
  have hz : a 0 = 0 ∧ (∀ p, a p ≤ 1) ∧ y ≤ 1 := by
    rcases hw with ⟨-, rfl, rfl⟩ | ⟨r, -, -, rfl, rfl⟩
    · exact ⟨rfl, fun p => Nat.zero_le _, Nat.le_refl _⟩
    · exact ⟨by unfold aW; rw [if_neg (fun k => k.1 rfl)], aW_le A r, Nat.zero_le _⟩
  have hb := EE_le (g := gOf A) (k := A (18 + h)) (y := y) hv hz.2.1 10 0 c (A (22 + h))
  have h10 : (10 : Nat) ^ 10 = 10000000000 := by decide
  have hu : EE (gOf A) (A (18 + h)) v a y 10 0 c (A (22 + h)) ≤ 110000000000 := by
    rw [h10] at hb
    have := hz.2.2
    have : 10000000000 * (1 + 10 * y) ≤ 10000000000 * 11 := Nat.mul_le_mul_left _ (by omega)
    omega
  unfold f_X10_byTurns
  refine ok_bind (m_sum hI hv hh hc hw) (fun e he => ?_)
  rw [he.1, sum_EE hv hz.1, m_low hu, Option.bind_some]
  exact ok_some ⟨rfl, he.2⟩
theorem op_luck {σ : Sg} (h : Inv σ) (τ : Sl) (a b c d w : Int32) : ∃ r τ1 σ1, f_X9_luck a b c d w σ τ = some (r, τ1) ∧ f_X10_luck a b c d w σ = some (r, σ1) ∧ Inv σ1 := by
  obtain ⟨A, I, h⟩ := h
  have hW := h.2.2.2.1
  have w4 := hW.1.2.2.2.1
  have m1 := mIn0 (x := a) (hi := 10) (n := 11) (by decide)
  have xcn := x_can (a := b) (d := c) h.1.2.2.1 (by omega)
  have mh := mHog (x := b) h.2.2.1 (by omega)
  have mc := mCol (x := c)
  have bad : ∀ (t1 : Option (Int64 × Sl)) (t2 : Option (Int64 × Sg)), t1 = some (-1, τ) → t2 = some (-1, σ) → ∃ r τ1 σ1, t1 = some (r, τ1) ∧ t2 = some (r, σ1) ∧ Inv σ1 := fun t1 t2 q1 q2 => ⟨_, _, _, q1, q2, A, I, h⟩
  by_cases ha : vp_in a 11
  · by_cases hbc : vp_in b (A 41) ∧ vp_in c 8
    · by_cases hd : vp_in d 4
      · by_cases hw : vp_in w 2
        · obtain ⟨v, hv, rfl⟩ := vin_nI ha (by omega)
          obtain ⟨hb0, hc0⟩ := id hbc
          obtain ⟨i, hi, rfl⟩ := vin_nI hb0 (by omega)
          obtain ⟨k, hk, rfl⟩ := vin_nI hc0 (by omega)
          obtain ⟨r, hr, rfl⟩ := vin_nI hd (by omega)
          obtain ⟨τ1, g1, g2, -⟩ := x_odds (τ := τ) (v := v) h.1 hW.1 hi (by omega) hr hk
          obtain ⟨⟨q, σ1⟩, f1, f2, f3⟩ := m_turns (w := w) (x := nI r) (v := v) h (by omega) hi hk (Or.inr ⟨r, hr, rfl, rfl, rfl⟩)
          dsimp at f2 f3
          subst f2
          have hb := EE_le (g := gOf A) (k := A (18 + i)) (y := 0) (show v ≤ 10 by omega) (aW_le A r) 10 0 k (A (22 + i))
          have h10 : (10 : Nat) ^ 10 = 10000000000 := by decide
          rw [h10] at hb
          refine ⟨lowQ (EE (gOf A) (A (18 + i)) v (aW A r) 0 10 0 k (A (22 + i))) w, τ1, σ1, ?_, ?_, A, I, h.same f3⟩
          · unfold f_X9_luck
            rw [xTen.1 ha, xcn.1 hbc, xRag.1 hd, xHalf.1 hw, if_neg z10, if_neg z10, if_neg z10, if_neg z10, g1, Option.bind_some, g2, x_low (by omega), Option.bind_some]
          · unfold f_X10_luck
            rw [m1.1 ha, mh.1 hb0, mc.1 hc0, mRag.1 hd, mHalf.1 hw, if_neg z10, if_neg z10, if_neg z10, if_neg z10, if_neg z10, f1, Option.bind_some]
        · refine bad _ _ ?_ ?_
          · unfold f_X9_luck
            rw [xTen.1 ha, xcn.1 hbc, xRag.1 hd, xHalf.2 hw, if_neg z10, if_neg z10, if_neg z10, if_pos rfl]
          · unfold f_X10_luck
            rw [m1.1 ha, mh.1 hbc.1, mc.1 hbc.2, mRag.1 hd, mHalf.2 hw, if_neg z10, if_neg z10, if_neg z10, if_neg z10, if_pos rfl]
      · refine bad _ _ ?_ ?_
        · unfold f_X9_luck
          rw [xTen.1 ha, xcn.1 hbc, xRag.2 hd, if_neg z10, if_neg z10, if_pos rfl]
        · unfold f_X10_luck
          rw [m1.1 ha, mh.1 hbc.1, mc.1 hbc.2, mRag.2 hd, if_neg z10, if_neg z10, if_neg z10, if_pos rfl]
    · refine bad _ _ ?_ ?_
      · unfold f_X9_luck
        rw [xTen.1 ha, xcn.2 hbc, if_neg z10, if_pos rfl]
      · unfold f_X10_luck
        by_cases hb : vp_in b (A 41)
        · rw [m1.1 ha, mh.1 hb, mc.2 (fun z => hbc ⟨hb, z⟩), if_neg z10, if_neg z10, if_pos rfl]
        · rw [m1.1 ha, mh.2 hb, if_neg z10, if_pos rfl]
  · refine bad _ _ ?_ ?_
    · unfold f_X9_luck
      rw [xTen.2 ha, if_pos rfl]
    · unfold f_X10_luck
      rw [m1.2 ha, if_pos rfl]
theorem op_mean {σ : Sg} (h : Inv σ) (τ : Sl) (a b c w : Int32) : ∃ r τ1 σ1, f_X9_mean a b c w σ τ = some (r, τ1) ∧ f_X10_mean a b c w σ = some (r, σ1) ∧ Inv σ1 := by
  obtain ⟨A, I, h⟩ := h
  have hW := h.2.2.2.1
  have w4 := hW.1.2.2.2.1
  have m1 := mIn0 (x := a) (hi := 10) (n := 11) (by decide)
  have xcn := x_can (a := b) (d := c) h.1.2.2.1 (by omega)
  have mh := mHog (x := b) h.2.2.1 (by omega)
  have mc := mCol (x := c)
  have bad : ∀ (t1 : Option (Int64 × Sl)) (t2 : Option (Int64 × Sg)), t1 = some (-1, τ) → t2 = some (-1, σ) → ∃ r τ1 σ1, t1 = some (r, τ1) ∧ t2 = some (r, σ1) ∧ Inv σ1 := fun t1 t2 q1 q2 => ⟨_, _, _, q1, q2, A, I, h⟩
  by_cases ha : vp_in a 11
  · by_cases hbc : vp_in b (A 41) ∧ vp_in c 8
    · by_cases hw : vp_in w 2
      · obtain ⟨v, hv, rfl⟩ := vin_nI ha (by omega)
        obtain ⟨hb0, hc0⟩ := id hbc
        obtain ⟨i, hi, rfl⟩ := vin_nI hb0 (by omega)
        obtain ⟨k, hk, rfl⟩ := vin_nI hc0 (by omega)
        obtain ⟨τ1, g1, -, g2⟩ := x_odds (τ := τ) (v := v) (r := 0) h.1 hW.1 hi (by omega) (by omega) hk
        obtain ⟨⟨q, σ1⟩, f1, f2, f3⟩ := m_turns (w := w) (x := -4) (v := v) h (by omega) hi hk (Or.inl ⟨rfl, rfl, rfl⟩)
        dsimp at f2 f3
        subst f2
        have hb := EE_le (g := gOf A) (k := A (18 + i)) (y := 1) (show v ≤ 10 by omega) (fun p => Nat.zero_le (n := 1)) 10 0 k (A (22 + i)) (a := a0)
        have h10 : (10 : Nat) ^ 10 = 10000000000 := by decide
        rw [h10] at hb
        refine ⟨lowQ (EE (gOf A) (A (18 + i)) v a0 1 10 0 k (A (22 + i))) w, τ1, σ1, ?_, ?_, A, I, h.same f3⟩
        · unfold f_X9_mean
          have g1' : f_X3_follow 1 (nI v) (nI i) (nI k) 0 σ τ = some τ1 := g1
          rw [xTen.1 ha, xcn.1 hbc, xHalf.1 hw, if_neg z10, if_neg z10, if_neg z10, g1', Option.bind_some, g2, x_low (by omega), Option.bind_some]
        · unfold f_X10_mean
          rw [m1.1 ha, mh.1 hb0, mc.1 hc0, mHalf.1 hw, if_neg z10, if_neg z10, if_neg z10, if_neg z10, f1, Option.bind_some]
      · refine bad _ _ ?_ ?_
        · unfold f_X9_mean
          rw [xTen.1 ha, xcn.1 hbc, xHalf.2 hw, if_neg z10, if_neg z10, if_pos rfl]
        · unfold f_X10_mean
          rw [m1.1 ha, mh.1 hbc.1, mc.1 hbc.2, mHalf.2 hw, if_neg z10, if_neg z10, if_neg z10, if_pos rfl]
    · refine bad _ _ ?_ ?_
      · unfold f_X9_mean
        rw [xTen.1 ha, xcn.2 hbc, if_neg z10, if_pos rfl]
      · unfold f_X10_mean
        by_cases hb : vp_in b (A 41)
        · rw [m1.1 ha, mh.1 hb, mc.2 (fun z => hbc ⟨hb, z⟩), if_neg z10, if_neg z10, if_pos rfl]
        · rw [m1.1 ha, mh.2 hb, if_neg z10, if_pos rfl]
  · refine bad _ _ ?_ ?_
    · unfold f_X9_mean
      rw [xTen.2 ha, if_pos rfl]
    · unfold f_X10_mean
      rw [m1.2 ha, if_pos rfl]
