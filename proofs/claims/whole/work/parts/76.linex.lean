/-! lines, as the class reads them -/
def mtF (b : Nat → Nat) (ts c : Nat) : Nat → Bool
  | 0 => true
  | d + 1 => mtF b ts c d && decide (b (ts + d) = letN (c + d))
theorem mtF_iff {b : Nat → Nat} {ts c : Nat} : ∀ d, mtF b ts c d = true ↔ ∀ j, j < d → b (ts + j) = letN (c + j) := by
  intro d
  induction d with
  | zero => exact ⟨fun _ j hj => by omega, fun _ => rfl⟩
  | succ d ih =>
    unfold mtF
    rw [Bool.and_eq_true, ih, decide_eq_true_eq]
    constructor
    · rintro ⟨h1, h2⟩ j hj
      by_cases e : j = d
      · rw [e]; exact h2
      · exact h1 j (by omega)
    · exact fun h => ⟨fun j hj => h j (by omega), h d (by omega)⟩
def wlen (k : Nat) : Nat := cutN (k + 1) - cutN k
/-- the bytes are name k -/
def mt (b : Nat → Nat) (ts te k : Nat) : Bool := decide (te - ts = wlen k) && mtF b ts (cutN k) (wlen k)
theorem mt_iff {b : Nat → Nat} {ts te k : Nat} : mt b ts te k = true ↔ te - ts = wlen k ∧ ∀ j, j < wlen k → b (ts + j) = letN (cutN k + j) := by
  unfold mt
  rw [Bool.and_eq_true, decide_eq_true_eq, mtF_iff]
def sw (w : Nat) : Nat := [4, 5, 6, 0, 1, 2, 3].getD w 0
theorem w_len : ∀ w, w < 7 → lenS.getD w 0 = wlen (sw w) ∧ wlen (sw w) ≤ 5 := by decide
theorem w_chr : ∀ w, w < 7 → ∀ j, j < 5 → j < wlen (sw w) → (bytS.getD w []).getD j 0 = nI (letN (cutN (sw w) + j)) := by decide
theorem letN_lt : ∀ i, i < 40 → letN i < 128 := by decide
theorem cut_le : ∀ k, k < 7 → cutN k + wlen k ≤ 28 := by decide
theorem sw_lt : ∀ w, w < 7 → sw w < 7 := by decide
theorem x_named {b : Nat → Nat} {n w : Nat} {t : Tk} {σ : Sg} (h : TX b n σ) (hw : w < 7) (hX : XL (.inr t) σ) (ht : t.1 ≤ 3) (h1 : t.2.1 ≤ t.2.2.1) (h2 : t.2.2.1 ≤ n) : f_X4_isNamed w σ = some (if t.1 = 1 ∧ mt b t.2.1 t.2.2.1 (sw w) = true then 1 else 0) := by
  have hn := h.1
  obtain ⟨l1, l2⟩ := w_len w hw
  have key : Ok (f_X4_isNamed w σ) (fun y => y = if t.1 = 1 ∧ mt b t.2.1 t.2.2.1 (sw w) = true then 1 else 0) := by
    unfold f_X4_isNamed
    by_cases z : t.1 = 1
    · refine ok_t ((x_tk hX ht (k := 1) (by omega)).mpr z) ?_
      rw [hX.2.2.1, hX.2.2.2.1, nI_sub h1]
      unfold f_J0_length_8abf5
      rw [l1]
      by_cases zl : t.2.2.1 - t.2.1 = wlen (sw w)
      · refine ok_t (by rw [zl]) ?_
        refine ok_bind (Q := fun r => (∃ e, r = .inl e ∧ ∀ j, j < wlen (sw w) → b (t.2.1 + j) = letN (cutN (sw w) + j)) ∨ (r = .inr 0 ∧ ∃ j, j < wlen (sw w) ∧ b (t.2.1 + j) ≠ letN (cutN (sw w) + j))) ?_ (fun r hr => ?_)
        · refine wh_1 (P := fun k (x : Int32) => x = nI k ∧ k ≤ wlen (sw w) ∧ ∀ j, j < k → b (t.2.1 + j) = letN (cutN (sw w) + j)) 6 (by omega) ⟨rfl, Nat.zero_le _, fun j hj => by omega⟩ ?_
          rintro k x hk ⟨rfl, q1, q2⟩
          unfold b_X4_isNamed_28 f_J0_length_8abf5 f_J0_charAt_5068e
          rw [l1]
          by_cases hlt : k < wlen (sw w)
          · refine ok_f (nnle hlt (by omega)) ?_
            have hb := h.2.2 (t.2.1 + k) (by omega)
            have hl := letN_lt (cutN (sw w) + k) (by have := cut_le (sw w) (sw_lt w hw); omega)
            rw [hX.2.2.1, nI_add, x_byte h (by omega), Option.bind_some, nI_clamp (by omega), w_chr w hw k (by omega) hlt]
            refine ok_in (vp_in_nI (by omega) (by omega)) ?_
            by_cases c : b (t.2.1 + k) = letN (cutN (sw w) + k)
            · refine ok_t (by rw [c]) (ok_some (Or.inl ⟨by omega, _, rfl, nI_1 _, by omega, fun j hj => ?_⟩))
              by_cases e : j = k
              · rw [e]; exact c
              · exact q2 j (by omega)
            · exact ok_f (fun q => c ((nI_eq (by omega) (by omega)).mp q)) (ok_some (Or.inr ⟨_, rfl, Or.inr ⟨rfl, k, hlt, c⟩⟩))
          · obtain rfl : k = wlen (sw w) := by omega
            exact ok_t (nle (Nat.le_refl _) (by omega)) (ok_some (Or.inr ⟨_, rfl, Or.inl ⟨_, rfl, q2⟩⟩))
        · rcases hr with ⟨e, rfl, q⟩ | ⟨rfl, j, hj, q⟩
          · refine ok_some ?_
            rw [if_pos ⟨z, mt_iff.mpr ⟨zl, q⟩⟩]
          · refine ok_some ?_
            rw [if_neg (fun q2 => q ((mt_iff.mp q2.2).2 j hj))]
      · refine ok_f (fun q => zl ((nI_eq (by omega) (by omega)).mp q)) (ok_some ?_)
        rw [if_neg (fun q2 => zl (mt_iff.mp q2.2).1)]
    · refine ok_f (fun q => z ((x_tk hX ht (k := 1) (by omega)).mp q)) (ok_some ?_)
      rw [if_neg (fun q => z q.1)]
  obtain ⟨y, e, hy⟩ := key
  rw [e, hy]
theorem dr_fr {σ σ1 : Sg} {B : Pg} (h : Fr dr σ σ1) : True := True.intro
theorem TX.d {b : Nat → Nat} {n : Nat} {σ σ1 : Sg} (h : TX b n σ) (hf : Fr dr σ σ1) : TX b n σ1 := ⟨h.1, by rw [hf 54 (by unfold dr slp; omega)]; exact h.2.1, fun i hi => by rw [hf 55 (by unfold dr slp; omega)]; exact h.2.2 i hi⟩
theorem sl56 {σ σ1 : Sg} (h : Fr (slp 57) σ σ1) {j : Nat} : σ1 56 j = σ 56 j := by rw [h 56 (by unfold slp; omega)]
theorem x_readPeg {b : Nat → Nat} {n : Nat} {B : Pg} {t : Tk} {σ : Sg} (h : TX b n σ) (hX : XL (.inr t) σ) (hR : RX 57 B σ) (hW : WFs B) (he : t.2.2.1 ≤ n) : Ok (f_X4_readPeg σ) (fun y => XY (rdPeg b n B t) y ∧ Fr dr σ y) := by
  have w1 := hW.1
  unfold f_X4_readPeg rdPeg
  refine ok_app ?_
  rw [hR.1]
  by_cases hf : 7 ≤ B 38
  · rw [if_pos hf, if_neg (show ¬ nI (B 38) < (7 : Int32) from nI_nlt (b := 7) hf (by omega))]
    obtain ⟨f1, f2⟩ := x_fail (c := 5) (by omega) (by omega) hX.1 hX.2.2.1
    have hR' := hR.f56 f2
    have f1' : XL (.inl (5, t.2.1)) (f_X4_fail 5 σ) := f1
    rw [x_take_no f1', Option.bind_some, x_free_no f1' hR' hW, Option.bind_some, x_take_no f1', Option.bind_some, x_semi_no f1', Option.bind_some, if_neg f1'.ne]
    exact ok_some ⟨⟨f1', B, hR', hW⟩, f2.dr⟩
  · rw [if_neg hf, if_pos (show nI (B 38) < (7 : Int32) from nI_lt (b := 7) (by omega) (by omega))]
    refine ok_bind (x_cell h he hX.1 hX.2.2.2.1 hR hW) (fun y3 hy3 => ok_bind hy3 (fun y4 hy4 => ?_))
    obtain ⟨u1, u2, u3⟩ := hy4
    have hR4 := hR.f56 u3
    have hT4 := h.f u3
    cases hq : eb (lx b n t.2.2.1) (cel B) with
    | inl q =>
      rw [hq] at u1
      rw [x_take_no u1, Option.bind_some, x_semi_no u1, Option.bind_some, if_neg u1.ne]
      exact ok_some ⟨⟨u1, B, hR4, hW⟩, u3.dr⟩
    | inr t1 =>
      rw [hq] at u1
      obtain ⟨-, -, -, a4, a5, a6⟩ := lx_cel he hq
      rw [u2 t1 hq, eb_r]
      refine ok_bind (x_take (lo := 0) (hi := 3) hT4 a4 u1.1 u1.2.2.2.1 (by omega) (by omega)) (fun y5 hy5 => ?_)
      obtain ⟨v1, v2, v3⟩ := hy5
      have hR5 := hR4.f56 v3
      have hT5 := hT4.f v3
      cases hq2 : eb (lx b n t1.2.2.1) (num 0 3) with
      | inl q =>
        rw [hq2] at v1
        rw [x_semi_no v1, Option.bind_some, if_neg v1.ne]
        exact ok_some ⟨⟨v1, B, hR5, hW⟩, (u3.tr v3).dr⟩
      | inr t2 =>
        rw [hq2] at v1
        obtain ⟨-, -, -, b4, -, b6⟩ := lx_num a4 hq2
        rw [v2 t2 hq2, eb_r]
        refine ok_bind (x_semi hT5 b4 v1.1 v1.2.2.2.1) (fun y6 hy6 => ?_)
        obtain ⟨z1, z2⟩ := hy6
        have hR6 := hR5.f56 z2
        cases hq3 : eb (lx b n t2.2.2.1) sem with
        | inl q =>
          rw [hq3] at z1
          rw [if_neg z1.ne]
          exact ok_some ⟨⟨z1, B, hR6, hW⟩, ((u3.tr v3).tr z2).dr⟩
        | inr t3 =>
          rw [hq3] at z1
          rw [if_pos z1.1, eb_r]
          obtain ⟨-, -, g3⟩ := x_addPeg hR6 hW a5 (show t2.2.2.2 < 4 by omega)
          refine ok_bind (g3 a6 (by omega)) (fun y8 hy8 => ok_some ⟨⟨?_, ?_, hy8.2.1, WFs_pPeg hW (by omega) a6 a5 (by omega)⟩, ((u3.tr v3).tr z2).dr.tr (hy8.2.2.mono (fun c hc => Or.inr hc))⟩)
          · rw [sl56 hy8.2.2]; exact z1.1
          · rw [sl56 hy8.2.2]; exact z1.2.2.2.1
theorem x_readSlug {b : Nat → Nat} {n : Nat} {B : Pg} {t : Tk} {σ : Sg} (h : TX b n σ) (hX : XL (.inr t) σ) (hR : RX 57 B σ) (hW : WFs B) (he : t.2.2.1 ≤ n) : Ok (f_X4_readSlug σ) (fun y => XY (rdSlug b n B t) y ∧ Fr dr σ y) := by
  have w1 := hW.2.1
  unfold f_X4_readSlug rdSlug
  refine ok_app ?_
  rw [hR.2.1]
  by_cases hf : 4 ≤ B 39
  · rw [if_pos hf, if_neg (show ¬ nI (B 39) < (4 : Int32) from nI_nlt (b := 4) hf (by omega))]
    obtain ⟨f1, f2⟩ := x_fail (c := 5) (by omega) (by omega) hX.1 hX.2.2.1
    have hR' := hR.f56 f2
    have f1' : XL (.inl (5, t.2.1)) (f_X4_fail 5 σ) := f1
    rw [x_take_no f1', Option.bind_some, x_free_no f1' hR' hW, Option.bind_some, x_semi_no f1', Option.bind_some, if_neg f1'.ne]
    exact ok_some ⟨⟨f1', B, hR', hW⟩, f2.dr⟩
  · rw [if_neg hf, if_pos (show nI (B 39) < (4 : Int32) from nI_lt (b := 4) (by omega) (by omega))]
    refine ok_bind (x_cell h he hX.1 hX.2.2.2.1 hR hW) (fun y3 hy3 => ok_bind hy3 (fun y4 hy4 => ?_))
    obtain ⟨u1, u2, u3⟩ := hy4
    have hR4 := hR.f56 u3
    have hT4 := h.f u3
    cases hq : eb (lx b n t.2.2.1) (cel B) with
    | inl q =>
      rw [hq] at u1
      rw [x_semi_no u1, Option.bind_some, if_neg u1.ne]
      exact ok_some ⟨⟨u1, B, hR4, hW⟩, u3.dr⟩
    | inr t1 =>
      rw [hq] at u1
      obtain ⟨-, -, -, a4, a5, a6⟩ := lx_cel he hq
      rw [u2 t1 hq, eb_r]
      refine ok_bind (x_semi hT4 a4 u1.1 u1.2.2.2.1) (fun y6 hy6 => ?_)
      obtain ⟨z1, z2⟩ := hy6
      have hR6 := hR4.f56 z2
      cases hq3 : eb (lx b n t1.2.2.1) sem with
      | inl q =>
        rw [hq3] at z1
        rw [if_neg z1.ne]
        exact ok_some ⟨⟨z1, B, hR6, hW⟩, (u3.tr z2).dr⟩
      | inr t3 =>
        rw [hq3] at z1
        rw [if_pos z1.1, eb_r]
        obtain ⟨-, -, g3⟩ := x_addSlug hR6 hW a5
        refine ok_bind (g3 a6 (by omega)) (fun y8 hy8 => ok_some ⟨⟨?_, ?_, hy8.2.1, WFs_pSlug hW (by omega) a6 a5⟩, (u3.tr z2).dr.tr (hy8.2.2.mono (fun c hc => Or.inr hc))⟩)
        · rw [sl56 hy8.2.2]; exact z1.1
        · rw [sl56 hy8.2.2]; exact z1.2.2.2.1
theorem x_readSuit {b : Nat → Nat} {n : Nat} {B : Pg} {t : Tk} {σ : Sg} (h : TX b n σ) (hX : XL (.inr t) σ) (hR : RX 57 B σ) (hW : WFs B) (he : t.2.2.1 ≤ n) : Ok (f_X4_readSuit σ) (fun y => XY (rdSuit b n B t) y ∧ Fr dr σ y) := by
  have w1 := hW.2.2.1
  unfold f_X4_readSuit rdSuit
  refine ok_app ?_
  rw [hR.2.2.2.1]
  by_cases hf : 6 ≤ B 40
  · rw [if_pos hf, if_neg (show ¬ nI (B 40) < (6 : Int32) from nI_nlt (b := 6) hf (by omega))]
    obtain ⟨f1, f2⟩ := x_fail (c := 5) (by omega) (by omega) hX.1 hX.2.2.1
    have hR' := hR.f56 f2
    have f1' : XL (.inl (5, t.2.1)) (f_X4_fail 5 σ) := f1
    rw [x_take_no f1', Option.bind_some, x_take_no f1', Option.bind_some, x_semi_no f1', Option.bind_some, if_neg f1'.ne]
    exact ok_some ⟨⟨f1', B, hR', hW⟩, f2.dr⟩
  · rw [if_neg hf, if_pos (show nI (B 40) < (6 : Int32) from nI_lt (b := 6) (by omega) (by omega))]
    refine ok_bind (x_take (lo := 0) (hi := 3) h he hX.1 hX.2.2.2.1 (by omega) (by omega)) (fun y4 hy4 => ?_)
    obtain ⟨u1, u2, u3⟩ := hy4
    have hR4 := hR.f56 u3
    have hT4 := h.f u3
    cases hq : eb (lx b n t.2.2.1) (num 0 3) with
    | inl q =>
      rw [hq] at u1
      rw [x_take_no u1, Option.bind_some, x_semi_no u1, Option.bind_some, if_neg u1.ne]
      exact ok_some ⟨⟨u1, B, hR4, hW⟩, u3.dr⟩
    | inr t1 =>
      rw [hq] at u1
      obtain ⟨-, -, -, a4, -, a6⟩ := lx_num he hq
      rw [u2 t1 hq, eb_r]
      refine ok_bind (x_take (lo := 0) (hi := 7) hT4 a4 u1.1 u1.2.2.2.1 (by omega) (by omega)) (fun y5 hy5 => ?_)
      obtain ⟨v1, v2, v3⟩ := hy5
      have hR5 := hR4.f56 v3
      have hT5 := hT4.f v3
      cases hq2 : eb (lx b n t1.2.2.1) (num 0 7) with
      | inl q =>
        rw [hq2] at v1
        rw [x_semi_no v1, Option.bind_some, if_neg v1.ne]
        exact ok_some ⟨⟨v1, B, hR5, hW⟩, (u3.tr v3).dr⟩
      | inr t2 =>
        rw [hq2] at v1
        obtain ⟨-, -, -, b4, -, b6⟩ := lx_num a4 hq2
        rw [v2 t2 hq2, eb_r]
        refine ok_bind (x_semi hT5 b4 v1.1 v1.2.2.2.1) (fun y6 hy6 => ?_)
        obtain ⟨z1, z2⟩ := hy6
        have hR6 := hR5.f56 z2
        cases hq3 : eb (lx b n t2.2.2.1) sem with
        | inl q =>
          rw [hq3] at z1
          rw [if_neg z1.ne]
          exact ok_some ⟨⟨z1, B, hR6, hW⟩, ((u3.tr v3).tr z2).dr⟩
        | inr t3 =>
          rw [hq3] at z1
          rw [if_pos z1.1, eb_r]
          obtain ⟨-, g3⟩ := x_addSuit (w := t1.2.2.2) (c := t2.2.2.2) hR6 hW
          refine ok_bind (g3 (by omega)) (fun y8 hy8 => ok_some ⟨⟨?_, ?_, hy8.2.1, WFs_pSuit hW (by omega) (by omega) (by omega)⟩, ((u3.tr v3).tr z2).dr.tr (hy8.2.2.mono (fun c hc => Or.inr hc))⟩)
          · rw [sl56 hy8.2.2]; exact z1.1
          · rw [sl56 hy8.2.2]; exact z1.2.2.2.1
theorem x_readHog {b : Nat → Nat} {n k : Nat} {B : Pg} {t : Tk} {σ : Sg} (h : TX b n σ) (hX : XL (.inr t) σ) (hR : RX 57 B σ) (hW : WFs B) (he : t.2.2.1 ≤ n) (hk : k < 4) : Ok (f_X4_readHedgehog (nI k) σ) (fun y => XY (rdHog b n k B t) y ∧ Fr dr σ y) := by
  have w1 := hW.2.2.2.1
  unfold f_X4_readHedgehog rdHog
  refine ok_app ?_
  rw [hR.2.2.1]
  by_cases hf : 4 ≤ B 41
  · rw [if_pos hf, if_neg (show ¬ nI (B 41) < (4 : Int32) from nI_nlt (b := 4) hf (by omega))]
    obtain ⟨f1, f2⟩ := x_fail (c := 5) (by omega) (by omega) hX.1 hX.2.2.1
    have hR' := hR.f56 f2
    have f1' : XL (.inl (5, t.2.1)) (f_X4_fail 5 σ) := f1
    rw [x_take_no f1', Option.bind_some, x_semi_no f1', Option.bind_some, if_neg f1'.ne]
    exact ok_some ⟨⟨f1', B, hR', hW⟩, f2.dr⟩
  · rw [if_neg hf, if_pos (show nI (B 41) < (4 : Int32) from nI_lt (b := 4) (by omega) (by omega))]
    refine ok_bind (x_take (lo := 1) (hi := 9) h he hX.1 hX.2.2.2.1 (by omega) (by omega)) (fun y4 hy4 => ?_)
    obtain ⟨u1, u2, u3⟩ := hy4
    have hR4 := hR.f56 u3
    have hT4 := h.f u3
    cases hq : eb (lx b n t.2.2.1) (num 1 9) with
    | inl q =>
      rw [hq] at u1
      rw [x_semi_no u1, Option.bind_some, if_neg u1.ne]
      exact ok_some ⟨⟨u1, B, hR4, hW⟩, u3.dr⟩
    | inr t1 =>
      rw [hq] at u1
      obtain ⟨-, -, -, a4, a5, a6⟩ := lx_num he hq
      rw [u2 t1 hq, eb_r]
      refine ok_bind (x_semi hT4 a4 u1.1 u1.2.2.2.1) (fun y6 hy6 => ?_)
      obtain ⟨z1, z2⟩ := hy6
      have hR6 := hR4.f56 z2
      cases hq3 : eb (lx b n t1.2.2.1) sem with
      | inl q =>
        rw [hq3] at z1
        rw [if_neg z1.ne]
        exact ok_some ⟨⟨z1, B, hR6, hW⟩, (u3.tr z2).dr⟩
      | inr t3 =>
        rw [hq3] at z1
        rw [if_pos z1.1, eb_r]
        refine ok_bind (x_addHog hR6 hW (by omega)) (fun y8 hy8 => ok_some ⟨⟨?_, ?_, hy8.1, WFs_pHh hW (by omega) hk ⟨a5, a6⟩⟩, (u3.tr z2).dr.tr (hy8.2.mono (fun c hc => Or.inr hc))⟩)
        · rw [sl56 hy8.2]; exact z1.1
        · rw [sl56 hy8.2]; exact z1.2.2.2.1
/-- a line -/
def ln (b : Nat → Nat) (n : Nat) (B : Pg) (t : Tk) : Ft ⊕ (Nat × Pg) :=
  if t.1 = 1 ∧ mt b t.2.1 t.2.2.1 4 = true then rdPeg b n B t
  else if t.1 = 1 ∧ mt b t.2.1 t.2.2.1 5 = true then rdSlug b n B t
  else if t.1 = 1 ∧ mt b t.2.1 t.2.2.1 6 = true then rdSuit b n B t
  else if t.1 = 1 ∧ mt b t.2.1 t.2.2.1 0 = true then rdHog b n 0 B t
  else if t.1 = 1 ∧ mt b t.2.1 t.2.2.1 1 = true then rdHog b n 1 B t
  else if t.1 = 1 ∧ mt b t.2.1 t.2.2.1 2 = true then rdHog b n 2 B t
  else if t.1 = 1 ∧ mt b t.2.1 t.2.2.1 3 = true then rdHog b n 3 B t
  else .inl (2, t.2.1)
theorem ok_nm {c : Prop} [Decidable c] {e1 e2 : Option Sg} {P Q : Ft ⊕ (Nat × Pg)} {R : Ft ⊕ (Nat × Pg) → Sg → Prop} (h1 : c → Ok e1 (R P)) (h2 : ¬ c → Ok e2 (R Q)) : Ok ((some (if c then (1 : Int32) else 0)).bind fun y => if y = 0 then e2 else e1) (R (if c then P else Q)) := by
  rw [Option.bind_some]
  by_cases z : c
  · rw [if_pos z, if_pos z, if_neg z10]; exact h1 z
  · rw [if_neg z, if_neg z, if_pos rfl]; exact h2 z
theorem x_readLine {b : Nat → Nat} {n : Nat} {B : Pg} {t : Tk} {σ : Sg} (h : TX b n σ) (hX : XL (.inr t) σ) (hR : RX 57 B σ) (hW : WFs B) (ht : t.1 ≤ 3) (h1 : t.2.1 ≤ t.2.2.1) (he : t.2.2.1 ≤ n) : Ok (f_X4_readLine σ) (fun y => XY (ln b n B t) y ∧ Fr dr σ y) := by
  unfold f_X4_readLine ln
  have nm : ∀ w, w < 7 → f_X4_isNamed w σ = some (if t.1 = 1 ∧ mt b t.2.1 t.2.2.1 (sw w) = true then 1 else 0) := fun w hw => x_named h hw hX ht h1 he
  rw [nm 0 (by omega), nm 1 (by omega), nm 2 (by omega), nm 3 (by omega), nm 4 (by omega), nm 5 (by omega), nm 6 (by omega)]
  refine ok_nm (R := fun P y => XY P y ∧ Fr dr σ y) (fun _ => ok_bind (x_readPeg h hX hR hW he) (fun y hy => ok_some hy)) (fun _ => ?_)
  refine ok_nm (R := fun P y => XY P y ∧ Fr dr σ y) (fun _ => ok_bind (x_readSlug h hX hR hW he) (fun y hy => ok_some hy)) (fun _ => ?_)
  refine ok_nm (R := fun P y => XY P y ∧ Fr dr σ y) (fun _ => ok_bind (x_readSuit h hX hR hW he) (fun y hy => ok_some hy)) (fun _ => ?_)
  refine ok_nm (R := fun P y => XY P y ∧ Fr dr σ y) (fun _ => ok_bind (x_readHog (k := 0) h hX hR hW he (by omega)) (fun y hy => ok_some hy)) (fun _ => ?_)
  refine ok_nm (R := fun P y => XY P y ∧ Fr dr σ y) (fun _ => ok_bind (x_readHog (k := 1) h hX hR hW he (by omega)) (fun y hy => ok_some hy)) (fun _ => ?_)
  refine ok_nm (R := fun P y => XY P y ∧ Fr dr σ y) (fun _ => ok_bind (x_readHog (k := 2) h hX hR hW he (by omega)) (fun y hy => ok_some hy)) (fun _ => ?_)
  refine ok_nm (R := fun P y => XY P y ∧ Fr dr σ y) (fun _ => ok_bind (x_readHog (k := 3) h hX hR hW he (by omega)) (fun y hy => ok_some hy)) (fun _ => ?_)
  obtain ⟨f1, f2⟩ := x_fail (c := 2) (by omega) (by omega) hX.1 hX.2.2.1
  exact ok_some ⟨⟨f1, B, hR.f56 f2, hW⟩, f2.dr⟩
