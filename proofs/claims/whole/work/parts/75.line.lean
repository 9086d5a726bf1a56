/-! text: lines -/
def eb {X Y : Type} (x : Ft ⊕ X) (k : X → Ft ⊕ Y) : Ft ⊕ Y := match x with | .inl q => .inl q | .inr v => k v
theorem eb_l {X Y : Type} (q : Ft) (k : X → Ft ⊕ Y) : eb (.inl q) k = .inl q := rfl
theorem eb_r {X Y : Type} (v : X) (k : X → Ft ⊕ Y) : eb (.inr v) k = k v := rfl
theorem eb_inr {X Y : Type} {x : Ft ⊕ X} {k : X → Ft ⊕ Y} {v : Y} (h : eb x k = .inr v) : ∃ u, x = .inr u ∧ k u = .inr v := by
  rcases x with q | u
  · cases h
  · exact ⟨u, rfl, h⟩
def num (lo hi : Nat) (t : Tk) : Ft ⊕ Tk := if t.1 = 2 then (if lo ≤ t.2.2.2 ∧ t.2.2.2 ≤ hi then .inr t else .inl (3, t.2.1)) else .inl (2, t.2.1)
def cel (B : Pg) (t : Tk) : Ft ⊕ Tk := if t.1 = 2 then (if t.2.2.2 % 10 < 8 then (if gOf B t.2.2.2 = 0 then .inr t else .inl (4, t.2.1)) else .inl (3, t.2.1)) else .inl (2, t.2.1)
def sem (t : Tk) : Ft ⊕ Tk := if t.1 = 3 then .inr t else .inl (2, t.2.1)
theorem num_in {lo hi : Nat} {t u : Tk} (h : num lo hi t = .inr u) : u = t ∧ t.1 = 2 ∧ lo ≤ t.2.2.2 ∧ t.2.2.2 ≤ hi := by
  unfold num at h
  by_cases h1 : t.1 = 2
  · rw [if_pos h1] at h
    by_cases h2 : lo ≤ t.2.2.2 ∧ t.2.2.2 ≤ hi
    · rw [if_pos h2] at h
      injection h with h
      exact ⟨h.symm, h1, h2⟩
    · rw [if_neg h2] at h; cases h
  · rw [if_neg h1] at h; cases h
theorem cel_in {B : Pg} {t u : Tk} (h : cel B t = .inr u) : u = t ∧ t.1 = 2 ∧ t.2.2.2 % 10 < 8 ∧ gOf B t.2.2.2 = 0 := by
  unfold cel at h
  by_cases h1 : t.1 = 2
  · rw [if_pos h1] at h
    by_cases h2 : t.2.2.2 % 10 < 8
    · rw [if_pos h2] at h
      by_cases h3 : gOf B t.2.2.2 = 0
      · rw [if_pos h3] at h
        injection h with h
        exact ⟨h.symm, h1, h2, h3⟩
      · rw [if_neg h3] at h; cases h
    · rw [if_neg h2] at h; cases h
  · rw [if_neg h1] at h; cases h
theorem sem_in {t u : Tk} (h : sem t = .inr u) : u = t ∧ t.1 = 3 := by
  unfold sem at h
  by_cases h1 : t.1 = 3
  · rw [if_pos h1] at h
    injection h with h
    exact ⟨h.symm, h1⟩
  · rw [if_neg h1] at h; cases h
/-- a token that passed a test, from place e on -/
theorem lx_num {b : Nat → Nat} {n e lo hi : Nat} (he : e ≤ n) {t : Tk} (h : eb (lx b n e) (num lo hi) = .inr t) : lx b n e = .inr t ∧ e ≤ t.2.1 ∧ t.2.1 < t.2.2.1 ∧ t.2.2.1 ≤ n ∧ lo ≤ t.2.2.2 ∧ t.2.2.2 ≤ hi := by
  obtain ⟨u, h1, h2⟩ := eb_inr h
  obtain ⟨rfl, q1, q2⟩ := num_in h2
  have := lx_ok he h1
  exact ⟨h1, by omega, this.2.2.2.2.1 (by omega), by omega, q2⟩
theorem lx_cel {b : Nat → Nat} {n e : Nat} {B : Pg} (he : e ≤ n) {t : Tk} (h : eb (lx b n e) (cel B) = .inr t) : lx b n e = .inr t ∧ e ≤ t.2.1 ∧ t.2.1 < t.2.2.1 ∧ t.2.2.1 ≤ n ∧ okc t.2.2.2 ∧ gOf B t.2.2.2 = 0 := by
  obtain ⟨u, h1, h2⟩ := eb_inr h
  obtain ⟨rfl, q1, q2, q3⟩ := cel_in h2
  have := lx_ok he h1
  refine ⟨h1, by omega, this.2.2.2.2.1 (by omega), by omega, ?_, q3⟩
  unfold okc
  omega
theorem lx_sem {b : Nat → Nat} {n e : Nat} (he : e ≤ n) {t : Tk} (h : eb (lx b n e) sem = .inr t) : lx b n e = .inr t ∧ e ≤ t.2.1 ∧ t.2.1 < t.2.2.1 ∧ t.2.2.1 ≤ n := by
  obtain ⟨u, h1, h2⟩ := eb_inr h
  obtain ⟨rfl, q1⟩ := sem_in h2
  have := lx_ok he h1
  exact ⟨h1, by omega, this.2.2.2.2.1 (by omega), by omega⟩
/-- a hedgehog more -/
def pHh (A : Pg) (k s : Nat) : Pg := pu (pu (pu A (18 + A 41) k) (22 + A 41) s) 41 (A 41 + 1)
theorem x_addHog {b w c : Nat} {A : Pg} {σ : Sg} (h : RX b A σ) (hW : WFs A) (h41 : A 41 < 4) : Ok (f_X7_addHedgehog b (nI w) (nI c) σ) (fun y => RX b (pHh A w c) y.2 ∧ Fr (slp b) σ y.2) := by
  have w1 := hW.1
  have w2 := hW.2.1
  have w3 := hW.2.2.1
  obtain ⟨h1, h2, h3, h4, h5, h6, h7, h8, h9⟩ := id h
  unfold f_X7_addHedgehog
  rw [h3]
  refine ok_t (show nI (A 41) < nI 4 from nI_lt h41 (by omega)) (ok_in (vp_in_nI h41 (by omega)) (ok_app ?_))
  rw [nI_clamp (by omega)]
  have q2 : up2 σ (b + 4) (A 41) (nI w) b 7 = nI (A 41) := by rw [up2_cell _ _ _ (by omega)]; exact h3
  rw [q2]
  refine ok_in (vp_in_nI h41 (by omega)) (ok_app (ok_app (ok_some ?_)))
  rw [nI_clamp (by omega)]
  have q3 : up2 (up2 σ (b + 4) (A 41) (nI w)) (b + 5) (A 41) (nI c) b 7 = nI (A 41) := by rw [up2_cell _ _ _ (by omega)]; exact q2
  rw [q3, nI_1]
  refine ⟨?_, ((Fr.rf.up (by unfold slp; omega)).up (by unfold slp; omega)).up (by unfold slp; omega)⟩
  have e41 : pHh A w c 41 = A 41 + 1 := by unfold pHh; rw [pu_s]
  have eo : ∀ j, j ≠ 41 → j ≠ 18 + A 41 → j ≠ 22 + A 41 → pHh A w c j = A j := fun j a1 a2 a3 => by unfold pHh; rw [pu_n _ _ a1, pu_n _ _ a3, pu_n _ _ a2]
  have en : pHh A w c (18 + A 41) = w := by unfold pHh; rw [pu_n _ _ (by omega), pu_n _ _ (by omega), pu_s]
  have en2 : pHh A w c (22 + A 41) = c := by unfold pHh; rw [pu_n _ _ (by omega), pu_s]
  refine ⟨by rw [eo _ (by omega) (by omega) (by omega)]; simp [up2, h1], by rw [eo _ (by omega) (by omega) (by omega)]; simp [up2, h2], by rw [e41]; simp [up2], by rw [eo _ (by omega) (by omega) (by omega)]; simp [up2, h4], fun i hi => ?_, fun i hi => ?_, fun i hi => ?_, fun i hi => ?_, fun x hx => ?_⟩
  · rw [eo _ (by omega) (by omega) (by omega)] at hi; rw [eo _ (by omega) (by omega) (by omega), eo _ (by omega) (by omega) (by omega)]; simp [up2]; exact h5 i hi
  · rw [eo _ (by omega) (by omega) (by omega)] at hi; rw [eo _ (by omega) (by omega) (by omega)]; simp [up2]; exact h6 i hi
  · rw [e41] at hi
    by_cases e : i = A 41
    · subst e; rw [en, en2]; simp [up2]
    · rw [eo _ (by omega) (by omega) (by omega), eo _ (by omega) (by omega) (by omega)]; simp [up2, e]; exact h7 i (by omega)
  · rw [eo _ (by omega) (by omega) (by omega)] at hi; rw [eo _ (by omega) (by omega) (by omega), eo _ (by omega) (by omega) (by omega)]; simp [up2]; exact h8 i hi
  · rw [← gOf_congr (A := A) (B := pHh A w c) (fun j hj => (eo j (by omega) (by omega) (by omega)).symm) w1 w2]
    simp [up2]; exact h9 x hx
theorem WFs_pHh {A : Pg} (hW : WFs A) {w c : Nat} (h41 : A 41 < 4) (hw : w < 4) (hc : 1 ≤ c ∧ c ≤ 9) : WFs (pHh A w c) := by
  obtain ⟨w1, w2, w3, w4, w5, w6, w7, w8, w9, w10, w11⟩ := hW
  have e41 : pHh A w c 41 = A 41 + 1 := by unfold pHh; rw [pu_s]
  have eo : ∀ j, j ≠ 41 → j ≠ 18 + A 41 → j ≠ 22 + A 41 → pHh A w c j = A j := fun j a1 a2 a3 => by unfold pHh; rw [pu_n _ _ a1, pu_n _ _ a3, pu_n _ _ a2]
  have en : pHh A w c (18 + A 41) = w := by unfold pHh; rw [pu_n _ _ (by omega), pu_n _ _ (by omega), pu_s]
  have en2 : pHh A w c (22 + A 41) = c := by unfold pHh; rw [pu_n _ _ (by omega), pu_s]
  have e38 := eo 38 (by omega) (by omega) (by omega)
  have e39 := eo 39 (by omega) (by omega) (by omega)
  have e40 := eo 40 (by omega) (by omega) (by omega)
  refine ⟨by omega, by omega, by omega, by omega, fun i hi => ?_, fun i hi => ?_, fun i hi => ?_, fun i hi => ?_, fun i j hi hj => ?_, fun i j hi hj => ?_, fun i j hi hj => ?_⟩
  · rw [e38] at hi; rw [eo _ (by omega) (by omega) (by omega), eo _ (by omega) (by omega) (by omega)]; exact w5 i hi
  · rw [e39] at hi; rw [eo _ (by omega) (by omega) (by omega)]; exact w6 i hi
  · rw [e41] at hi
    by_cases e : i = A 41
    · subst e; rw [en, en2]; exact ⟨hw, hc⟩
    · rw [eo _ (by omega) (by omega) (by omega), eo _ (by omega) (by omega) (by omega)]; exact w7 i (by omega)
  · rw [e40] at hi; rw [eo _ (by omega) (by omega) (by omega), eo _ (by omega) (by omega) (by omega)]; exact w8 i hi
  · rw [e38] at hi hj; rw [eo _ (by omega) (by omega) (by omega), eo _ (by omega) (by omega) (by omega)]; exact w9 i j hi hj
  · rw [e38] at hi; rw [e39] at hj; rw [eo _ (by omega) (by omega) (by omega), eo _ (by omega) (by omega) (by omega)]; exact w10 i j hi hj
  · rw [e39] at hi hj; rw [eo _ (by omega) (by omega) (by omega), eo _ (by omega) (by omega) (by omega)]; exact w11 i j hi hj
/-! what a line tells -/
def rdPeg (b : Nat → Nat) (n : Nat) (B : Pg) (t : Tk) : Ft ⊕ (Nat × Pg) := if 7 ≤ B 38 then .inl (5, t.2.1) else eb (eb (lx b n t.2.2.1) (cel B)) fun t1 => eb (eb (lx b n t1.2.2.1) (num 0 3)) fun t2 => eb (eb (lx b n t2.2.2.1) sem) fun t3 => .inr (t3.2.2.1, pPeg B t1.2.2.2 t2.2.2.2)
def rdSlug (b : Nat → Nat) (n : Nat) (B : Pg) (t : Tk) : Ft ⊕ (Nat × Pg) := if 4 ≤ B 39 then .inl (5, t.2.1) else eb (eb (lx b n t.2.2.1) (cel B)) fun t1 => eb (eb (lx b n t1.2.2.1) sem) fun t3 => .inr (t3.2.2.1, pSlug B t1.2.2.2)
def rdSuit (b : Nat → Nat) (n : Nat) (B : Pg) (t : Tk) : Ft ⊕ (Nat × Pg) := if 6 ≤ B 40 then .inl (5, t.2.1) else eb (eb (lx b n t.2.2.1) (num 0 3)) fun t1 => eb (eb (lx b n t1.2.2.1) (num 0 7)) fun t2 => eb (eb (lx b n t2.2.2.1) sem) fun t3 => .inr (t3.2.2.1, pSuit B t1.2.2.2 t2.2.2.2)
def rdHog (b : Nat → Nat) (n k : Nat) (B : Pg) (t : Tk) : Ft ⊕ (Nat × Pg) := if 4 ≤ B 41 then .inl (5, t.2.1) else eb (eb (lx b n t.2.2.1) (num 1 9)) fun t1 => eb (eb (lx b n t1.2.2.1) sem) fun t3 => .inr (t3.2.2.1, pHh B k t1.2.2.2)
/-- the class behind a line -/
def XY : Ft ⊕ (Nat × Pg) → Sg → Prop
  | .inl q, σ => XL (.inl q) σ ∧ ∃ B, RX 57 B σ ∧ WFs B
  | .inr p, σ => σ 56 1 = 0 ∧ σ 56 6 = nI p.1 ∧ RX 57 p.2 σ ∧ WFs p.2
def dr (q : Nat) : Prop := q = 56 ∨ slp 57 q
theorem F56.dr {σ σ1 : Sg} (h : F56 σ σ1) : Fr dr σ σ1 := Fr.mono h (fun c hc => Or.inl hc)
theorem RX.f56 {B : Pg} {σ σ1 : Sg} (h : RX 57 B σ) (hf : F56 σ σ1) : RX 57 B σ1 := h.fr hf (fun k hk => by omega)
theorem x_take_no {q : Ft} {σ : Sg} {lo hi : Int32} (h : XL (.inl q) σ) : f_X4_takeNumber lo hi σ = some (σ 56 7, σ) := by
  unfold f_X4_takeNumber
  rw [x_adv_no h, Option.bind_some]
  simp only [x_fail_no h, ite_self, app]
theorem x_semi_no {q : Ft} {σ : Sg} (h : XL (.inl q) σ) : f_X4_takeSemicolon σ = some σ := by
  unfold f_X4_takeSemicolon
  rw [x_adv_no h, Option.bind_some, x_fail_no h, ite_self]
theorem x_free_no {q : Ft} {σ : Sg} {B : Pg} {a : Int32} (h : XL (.inl q) σ) (hX : RX 57 B σ) (hW : WFs B) : f_X4_mustBeFree a σ = some σ := by
  unfold f_X4_mustBeFree
  by_cases hc : isC a
  · obtain ⟨c, hc', rfl⟩ := hc
    rw [xCell.1 ⟨c, hc', rfl⟩, if_neg z10, x_isFree hX hW.1 hc', Option.bind_some, x_fail_no h, ite_self]
  · rw [xCell.2 hc, if_pos rfl, x_fail_no h]
theorem x_tk {t : Tk} {σ : Sg} (h : XL (.inr t) σ) (ht : t.1 ≤ 3) {k : Nat} (hk : 1 ≤ k ∧ k ≤ 3) : σ 56 4 = nI k ↔ t.1 = k := by
  rw [h.2.1]
  by_cases z : t.1 = 0
  · rw [if_pos z, nI_eq (by omega) (by omega)]; omega
  · rw [if_neg z, nI_eq (by omega) (by omega)]
theorem x_take {b : Nat → Nat} {n e lo hi : Nat} {σ : Sg} (h : TX b n σ) (he : e ≤ n) (h1 : σ 56 1 = 0) (h6 : σ 56 6 = nI e) (hlo : lo < 2 ^ 30) (hhi : hi < 2 ^ 30) :
    Ok (f_X4_takeNumber (nI lo) (nI hi) σ) (fun y => XL (eb (lx b n e) (num lo hi)) y.2 ∧ (∀ t, eb (lx b n e) (num lo hi) = .inr t → y.1 = nI t.2.2.2) ∧ F56 σ y.2) := by
  unfold f_X4_takeNumber
  refine ok_bind (x_adv h he h1 h6) (fun y hy => ok_app (ok_some ?_))
  obtain ⟨u1, u2⟩ := hy
  cases hl : lx b n e with
  | inl q =>
    rw [hl] at u1
    simp only [x_fail_no u1, ite_self]
    exact ⟨u1, fun t ht => (by cases ht), u2⟩
  | inr t =>
    rw [hl] at u1
    obtain ⟨t1, t2, t3, t4, t5, t6⟩ := lx_ok he hl
    rw [eb_r]
    have k2 : y 56 4 = (2 : Int32) ↔ t.1 = 2 := x_tk u1 t4 (k := 2) (by omega)
    have f3 := x_fail (c := 3) (by omega) (by omega) u1.1 u1.2.2.1
    have f2 := x_fail (c := 2) (by omega) (by omega) u1.1 u1.2.2.1
    unfold num
    by_cases z : t.1 = 2
    · have z7 := u1.2.2.2.2 z
      rw [if_pos (k2.mpr z), if_pos z, z7]
      by_cases g1 : t.2.2.2 < lo
      · rw [if_pos (nI_lt g1 (by omega)), if_neg (show ¬ (lo ≤ t.2.2.2 ∧ t.2.2.2 ≤ hi) by omega)]
        exact ⟨f3.1, fun t ht => (by cases ht), u2.tr f3.2⟩
      · rw [if_neg (nI_nlt (by omega) (by omega))]
        by_cases g2 : t.2.2.2 ≤ hi
        · rw [if_pos (nle g2 (by omega)), if_pos (show lo ≤ t.2.2.2 ∧ t.2.2.2 ≤ hi by omega)]
          exact ⟨u1, fun t' ht => by injection ht with ht; rw [← ht]; exact z7, u2⟩
        · rw [if_neg (nnle (by omega) (by omega)), if_neg (show ¬ (lo ≤ t.2.2.2 ∧ t.2.2.2 ≤ hi) by omega)]
          exact ⟨f3.1, fun t ht => (by cases ht), u2.tr f3.2⟩
    · rw [if_neg (fun q => z (k2.mp q)), if_neg z]
      exact ⟨f2.1, fun t ht => (by cases ht), u2.tr f2.2⟩
theorem x_semi {b : Nat → Nat} {n e : Nat} {σ : Sg} (h : TX b n σ) (he : e ≤ n) (h1 : σ 56 1 = 0) (h6 : σ 56 6 = nI e) :
    Ok (f_X4_takeSemicolon σ) (fun y => XL (eb (lx b n e) sem) y ∧ F56 σ y) := by
  unfold f_X4_takeSemicolon
  refine ok_bind (x_adv h he h1 h6) (fun y hy => ?_)
  obtain ⟨u1, u2⟩ := hy
  cases hl : lx b n e with
  | inl q =>
    rw [hl] at u1
    rw [x_fail_no u1, ite_self]
    exact ok_some ⟨u1, u2⟩
  | inr t =>
    rw [hl] at u1
    obtain ⟨t1, t2, t3, t4, t5, t6⟩ := lx_ok he hl
    rw [eb_r]
    have k3 : y 56 4 = (3 : Int32) ↔ t.1 = 3 := x_tk u1 t4 (k := 3) (by omega)
    have f2 := x_fail (c := 2) (by omega) (by omega) u1.1 u1.2.2.1
    unfold sem
    by_cases z : t.1 = 3
    · rw [if_pos (k3.mpr z), if_pos z]
      exact ok_some ⟨u1, u2⟩
    · rw [if_neg (fun q => z (k3.mp q)), if_neg z]
      exact ok_some ⟨f2.1, u2.tr f2.2⟩
theorem x_cell {b : Nat → Nat} {n e : Nat} {B : Pg} {σ : Sg} (h : TX b n σ) (he : e ≤ n) (h1 : σ 56 1 = 0) (h6 : σ 56 6 = nI e) (hX : RX 57 B σ) (hW : WFs B) :
    Ok (f_X4_takeNumber 0 99 σ) (fun y3 => Ok (f_X4_mustBeFree y3.1 y3.2) (fun y4 => XL (eb (lx b n e) (cel B)) y4 ∧ (∀ t, eb (lx b n e) (cel B) = .inr t → y3.1 = nI t.2.2.2) ∧ F56 σ y4)) := by
  refine ok_mono (x_take (lo := 0) (hi := 99) h he h1 h6 (by omega) (by omega)) ?_
  rintro ⟨v, y⟩ ⟨u1, u2, u3⟩
  dsimp at u1 u3 ⊢
  have hX2 := hX.f56 u3
  cases hl : lx b n e with
  | inl q =>
    rw [hl] at u1
    exact ok_eq (x_free_no u1 hX2 hW) ⟨u1, fun t ht => (by cases ht), u3⟩
  | inr t =>
    rw [hl, eb_r] at u1 u2
    obtain ⟨t1, t2, t3, t4, t5, t6⟩ := lx_ok he hl
    rw [eb_r]
    unfold num at u1 u2
    unfold cel
    by_cases z : t.1 = 2
    · rw [if_pos z, if_pos (show 0 ≤ t.2.2.2 ∧ t.2.2.2 ≤ 99 by omega)] at u1 u2
      rw [if_pos z]
      have hv := u2 t rfl
      subst hv
      have f3 := x_fail (c := 3) (by omega) (by omega) u1.1 u1.2.2.1
      have f4 := x_fail (c := 4) (by omega) (by omega) u1.1 u1.2.2.1
      unfold f_X4_mustBeFree
      by_cases g : t.2.2.2 % 10 < 8
      · have hc : okc t.2.2.2 := by unfold okc; omega
        rw [if_pos g, xCell.1 ⟨_, hc, rfl⟩, if_neg z10, x_isFree hX2 hW.1 hc, Option.bind_some]
        by_cases g0 : gOf B t.2.2.2 = 0
        · rw [if_pos g0, if_pos g0, if_neg z10]
          exact ok_some ⟨u1, fun t' ht => by injection ht with ht; rw [← ht], u3⟩
        · rw [if_neg g0, if_neg g0, if_pos rfl]
          exact ok_some ⟨f4.1, fun t ht => (by cases ht), u3.tr f4.2⟩
      · rw [if_neg g, xCell.2 (fun ⟨c, hc, e⟩ => g (by
          have := (nI_eq (by omega) (by have := hc.1; omega)).mp e
          rw [this]; exact hc.2)), if_pos rfl]
        exact ok_some ⟨f3.1, fun t ht => (by cases ht), u3.tr f3.2⟩
    · rw [if_neg z] at u1
      rw [if_neg z]
      exact ok_eq (x_free_no u1 hX2 hW) ⟨u1, fun t ht => (by cases ht), u3⟩
