/-! bribe -/
/-- a search for the fewest -/
def sf (p : Nat × Nat) (c v : Nat) : Nat × Nat := if v < p.2 then (c + 1, v) else p
def fo (e : Nat → Bool) (v : Nat → Nat) (n0 : Nat) : Nat → Nat × Nat
  | 0 => (0, n0)
  | x + 1 => if e x = true then sf (fo e v n0 x) x (v x) else fo e v n0 x
theorem fo_skip {e : Nat → Bool} {v : Nat → Nat} {n0 n : Nat} (h : e n = false) : fo e v n0 (n + 1) = fo e v n0 n := by
  conv => lhs; unfold fo
  simp [h]
theorem fo_le {e : Nat → Bool} {v : Nat → Nat} {n0 : Nat} : ∀ n, (fo e v n0 n).2 ≤ n0 ∧ (fo e v n0 n).1 ≤ n := by
  intro n
  induction n with
  | zero => exact ⟨Nat.le_refl _, Nat.le_refl _⟩
  | succ n ih =>
    unfold fo
    split
    · unfold sf
      split
      · exact ⟨by dsimp only; omega, Nat.le_refl _⟩
      · exact ⟨ih.1, by omega⟩
    · exact ⟨ih.1, by omega⟩
theorem fo_none {e : Nat → Bool} {v : Nat → Nat} {n0 : Nat} (hv : ∀ x, v x < n0) : ∀ n, (fo e v n0 n).1 = 0 → (fo e v n0 n).2 = n0 ∧ ∀ x, x < n → e x = false := by
  intro n
  induction n with
  | zero => exact fun _ => ⟨rfl, fun x hx => absurd hx (by omega)⟩
  | succ n ih =>
    intro h
    unfold fo at h ⊢
    by_cases he : e n = true
    · rw [if_pos he] at h ⊢
      unfold sf at h
      by_cases hp : v n < (fo e v n0 n).2
      · rw [if_pos hp] at h
        dsimp at h
        omega
      · rw [if_neg hp] at h
        have := (ih h).1
        have := hv n
        omega
    · rw [if_neg he] at h ⊢
      obtain ⟨h1, h2⟩ := ih h
      refine ⟨h1, fun x hx => ?_⟩
      by_cases z : x = n
      · rw [z]; simpa using he
      · exact h2 x (by omega)
/-- from where the count starts does not matter -/
theorem fo_eq {e : Nat → Bool} {v : Nat → Nat} {n0 m0 : Nat} (hn : ∀ x, v x < n0) (hm : ∀ x, v x < m0) : ∀ n, fo e v n0 n = fo e v m0 n ∨ (fo e v n0 n = (0, n0) ∧ fo e v m0 n = (0, m0)) := by
  intro n
  induction n with
  | zero => exact Or.inr ⟨rfl, rfl⟩
  | succ n ih =>
    by_cases he : e n = true
    · left
      conv => lhs; unfold fo
      conv => rhs; unfold fo
      rw [if_pos he, if_pos he]
      rcases ih with ih | ⟨h1, h2⟩
      · rw [ih]
      · rw [h1, h2]
        unfold sf
        rw [if_pos (hn n), if_pos (hm n)]
    · have he' : e n = false := by simpa using he
      rw [fo_skip he', fo_skip he']
      exact ih
theorem x_offerF {s : Sg} {p : Nat × Nat} {c v : Nat} (h2 : s 25 2 = rI p.1) (h3 : s 25 3 = nI p.2) (hv : v < 2 ^ 30) (hp : p.2 < 2 ^ 30) : (f_X0_offerFewest (nI c) (nI v) s) 25 2 = rI (sf p c v).1 ∧ (f_X0_offerFewest (nI c) (nI v) s) 25 3 = nI (sf p c v).2 ∧ Fr (fun q => q = 25) s (f_X0_offerFewest (nI c) (nI v) s) := by
  unfold f_X0_offerFewest sf
  rw [h3]
  by_cases z : v < p.2
  · rw [if_neg (nnle z (by omega)), if_pos z]
    refine ⟨by simp [app, up2]; rfl, ?_, up25⟩
    simp only [app]
    rw [up2_same]
  · rw [if_pos (nle (by omega) (by omega)), if_neg z]
    exact ⟨h2, h3, Fr.rf⟩
theorem m_offerF {p : Nat × Nat} {c v : Nat} {best num : Int32} (B : Nat → Int32) (hB : ∀ n, B (n + 1) = nI n) (h2 : best = B p.1) (h3 : num = nI p.2) (hv : v < 2 ^ 30) (hp : p.2 < 2 ^ 30) : (if num ≤ nI v then best else nI c) = B (sf p c v).1 ∧ (if num ≤ nI v then num else nI v) = nI (sf p c v).2 := by
  unfold sf
  by_cases z : v < p.2
  · rw [h3, if_neg (nnle z (by omega)), if_neg (nnle z (by omega)), if_pos z]
    exact ⟨(hB c).symm, rfl⟩
  · rw [h3, if_pos (nle (by omega) (by omega)), if_pos (nle (by omega) (by omega)), if_neg z]
    exact ⟨h2, rfl⟩
/-- how many suits other rags win -/
def vo (B : Pg) (g : Nat → Nat) (r : Nat) : Nat := cnt (fun i => decide (Wn B g i ≠ 0) && !decide (Wn B g i = r + 1)) (B 40)
theorem vo_le {B : Pg} {g : Nat → Nat} {r : Nat} (h : B 40 ≤ 6) : vo B g r ≤ 6 := Nat.le_trans (cnt_le _ _) h
theorem cutS_pSlug {A : Pg} {c : Nat} (hW : WFs A) (h4 : A 39 < 4) : Eqp (cutS (pSlug A c) (A 39)) A := by
  have e39 : cutS (pSlug A c) (A 39) 39 = A 39 := pu_s _ _ _
  have eo : ∀ j, j ≠ 39 → j ≠ 14 + A 39 → cutS (pSlug A c) (A 39) j = A j := fun j a1 a2 => by
    unfold cutS pSlug
    rw [pu_n _ _ a1, pu_n _ _ a1, pu_n _ _ a2]
  have w1 := hW.1
  have w3 := hW.2.2.1
  have w4 := hW.2.2.2.1
  have e38 := eo 38 (by omega) (by omega)
  have e40 := eo 40 (by omega) (by omega)
  have e41 := eo 41 (by omega) (by omega)
  refine ⟨e38, e39, e40, e41, fun i hi => ?_, fun i hi => ?_, fun i hi => ?_, fun i hi => ?_⟩
  · exact ⟨eo _ (by omega) (by omega), eo _ (by omega) (by omega)⟩
  · rw [e39] at hi
    exact eo _ (by omega) (by omega)
  · exact ⟨eo _ (by omega) (by omega), eo _ (by omega) (by omega)⟩
  · exact ⟨eo _ (by omega) (by omega), eo _ (by omega) (by omega)⟩
theorem WF_pSlug {A : Pg} {c : Nat} (hW : WF A) (h4 : A 39 < 4) (hf : gOf A c = 0) (hc : okc c) : WF (pSlug A c) := by
  have w3 := hW.1.2.2.1
  have eo : ∀ j, j ≠ 39 → j ≠ 14 + A 39 → pSlug A c j = A j := fun j a1 a2 => by
    unfold pSlug
    rw [pu_n _ _ a1, pu_n _ _ a2]
  refine ⟨WFs_pSlug hW.1 h4 hf hc, fun i hi => ?_⟩
  rw [eo 40 (by omega) (by omega)] at hi
  rw [eo _ (by omega) (by omega), eo _ (by omega) (by omega)]
  exact hW.2 i hi
def AdvF (A : Pg) (σ : Sg) (p : Nat × Nat) (s : Sg) : Prop := Same σ s ∧ RX 13 A s ∧ s 25 2 = rI p.1 ∧ s 25 3 = nI p.2
theorem x_seekSlug {A : Pg} {σ : Sg} {r : Nat} (h : RX 13 A σ) (hW : WF A) (h4 : A 39 < 4) (hr : r < 4) : Ok (f_X0_seekNewSlug (nI r) σ) (AdvF A σ (fo (fE A) (fun x => vo (pSlug A x) (gOf (pSlug A x)) r) 7 100)) := by
  have w3 := hW.1.2.2.1
  have e40 : ∀ x, pSlug A x 40 = A 40 := fun x => by unfold pSlug; rw [pu_n _ _ (by omega), pu_n _ _ (by omega)]
  have hv : ∀ x, vo (pSlug A x) (gOf (pSlug A x)) r ≤ 6 := fun x => vo_le (by rw [e40]; exact w3)
  generalize hV : (fun x => vo (pSlug A x) (gOf (pSlug A x)) r) = V
  have hV' : ∀ x, vo (pSlug A x) (gOf (pSlug A x)) r = V x := fun x => by rw [← hV]
  have hv6 : ∀ x, V x ≤ 6 := fun x => by rw [← hV']; exact hv x
  unfold f_X0_seekNewSlug
  refine ok_app ?_
  have hA0 : AdvF A σ (0, 7) (f_X0_seekFrom 7 σ) := by
    unfold f_X0_seekFrom
    simp only [app]
    have hF : Fr (fun q => q = 25) σ (up2 (up2 σ 25 2 (-4)) 25 3 7) := up25
    exact ⟨Same.rf.a25 hF, h.fr hF (fun k hk => by omega), by simp [up2]; rfl, by simp [up2]; rfl⟩
  generalize f_X0_seekFrom 7 σ = σ1 at hA0
  refine ok_app ?_
  rw [show σ1 13 4 = nI (A 39) from hA0.2.1.2.1]
  refine ok_bind (Q := fun e => AdvF A σ (fo (fE A) V 7 100) e.2) ?_ (fun e he => ok_some he)
  refine wh_0 (P := fun k (s : Int32 × Sg) => s.1 = nI k ∧ AdvF A σ (fo (fE A) V 7 k) s.2) 100 (by omega) ⟨rfl, hA0⟩ ?_
  rintro k ⟨x, s⟩ hk ⟨e1, hA⟩
  dsimp at e1 hA
  subst e1
  unfold b_X0_seekNewSlug_16
  dsimp +instances only
  by_cases hlt : k < 100
  · left
    refine ⟨hlt, ok_f (show ¬ nI 100 ≤ nI k from nnle hlt (by omega)) ?_⟩
    obtain ⟨hs, hX, h2, h3⟩ := hA
    have hno : ∀ v : Int32, v ≤ 0 → f_X7_addSlug 13 (nI k) s = some (v, s) → fE A k = false → Ok ((f_X7_addSlug 13 (nI k) s).bind fun (y5 : (Int32 × Sg)) => (if y5.1 ≤ 0 then some y5.2 else (f_X2_wonByOthers 13 (nI r) y5.2).bind fun (y8 : (Int32 × Sg)) => app (f_X0_offerFewest (nI k) (f_J6_bitCount_0f7a4 y8.1) y8.2) fun (σ9 : Sg) => (f_X7_cutSlugs 13 (nI (A 39)) σ9).bind fun (y10 : Sg) => some y10).bind fun (j6 : Sg) => some (.inl ((nI k + 1), j6))) (fun (y : (Int32 × Sg) ⊕ (Int32 × Sg)) => ∃ s', y = .inl s' ∧ s'.1 = nI (k + 1) ∧ AdvF A σ (fo (fE A) V 7 (k + 1)) s'.2) := fun v hv e z => by
      rw [e, Option.bind_some]
      dsimp only
      rw [if_pos hv, Option.bind_some]
      exact ok_some ⟨_, rfl, nI_1 _, by rw [fo_skip z]; exact ⟨hs, hX, h2, h3⟩⟩
    by_cases hc : okc k
    · obtain ⟨q1, q2, q3⟩ := x_addSlug hX hW.1 hc
      by_cases hg : gOf A k = 0
      · have hE : fE A k = true := fE_iff.mpr ⟨hc, hg⟩
        obtain ⟨⟨y, s1⟩, f1, f2, f3, f4⟩ := q3 hg h4
        dsimp at f2 f3 f4
        rw [f1, Option.bind_some]
        dsimp only
        rw [f2, if_neg (show ¬ nI (A 39 + 1) ≤ 0 from nnle (a := 0) (by omega) (by omega))]
        obtain ⟨⟨m, s2⟩, g1, g2, g3⟩ := x_wonByOthers (a := r) f3.g (WF_pSlug hW h4 hg hc) gOf_lt2 hr
        dsimp at g2 g3
        rw [g1, Option.bind_some]
        refine ok_bind (Q := AdvF A σ (fo (fE A) V 7 (k + 1))) (ok_app ?_) (fun s' h' => ok_some ⟨_, rfl, nI_1 _, h'⟩)
        have ec : f_J6_bitCount_0f7a4 m = nI (V k) := by
          rw [g2, x_bc _ (bm_1024 _ (by rw [e40]; omega)), pop_bm _ _ (by rw [e40]; omega), ← hV']
          rfl
        dsimp only
        rw [ec]
        have k25 : s2 25 = s 25 := by rw [g3 25 (by unfold crt; omega), f4 25 (by unfold slp; omega)]
        have hm := fo_le (e := fE A) (v := V) (n0 := 7) k
        obtain ⟨o1, o2, o3⟩ := x_offerF (s := s2) (p := fo (fE A) V 7 k) (c := k) (v := V k) (by rw [k25]; exact h2) (by rw [k25]; exact h3) (by have := hv6 k; omega) (by omega)
        have hX2 : RX 13 (pSlug A k) (f_X0_offerFewest (nI k) (nI (V k)) s2) := (f3.g.cr g3).rx.fr o3 (fun k hk => by omega)
        have e39 : pSlug A k 39 = A 39 + 1 := by unfold pSlug; rw [pu_s]
        obtain ⟨s4, u1, u2, u3⟩ := x_cutSlugs (n := A 39) hX2 (WFs_pSlug hW.1 h4 hg hc) (by rw [e39]; omega)
        rw [u1]
        refine ok_some ⟨(((hs.s13 f4).c13 g3).a25 o3).s13 u3, u2.eqp (cutS_pSlug hW.1 h4), ?_, ?_⟩
        · rw [u3 25 (by unfold slp; omega), o1]
          conv => rhs; unfold fo
          rw [if_pos hE]
        · rw [u3 25 (by unfold slp; omega), o2]
          conv => rhs; unfold fo
          rw [if_pos hE]
      · exact hno (-2) (by decide) (q1 hg) (by
          cases z : fE A k with
          | false => rfl
          | true => exact absurd (fE_iff.mp z).2 hg)
    · refine hno (-1) (by decide) ?_ (by
        cases z : fE A k with
        | false => rfl
        | true => exact absurd (fE_iff.mp z).1 hc)
      unfold f_X7_addSlug
      rw [xCell.2 (fun z => hc ((isC_iff (by omega)).mp z)), if_pos rfl]
  · right
    obtain rfl : k = 100 := by omega
    exact ok_t (by decide) (ok_some ⟨_, rfl, hA⟩)
theorem m_seekSlug {A : Pg} {I : Nat → Pg} {σ : Sg} {r : Nat} (h : InvA A I σ) (h4 : A 39 < 4) (hr : r < 4) : Ok (wh (b_X10_bribe_42 (nI r)) 4096 ((100 : Int32), (0 : Int32), (0 : Int32), σ)) (fun e => e.1 = nI (fo (fE A) (fun x => vo (pSlug A x) (gOf (pSlug A x)) r) 100 98).2 ∧ e.2.1 = b0 (fo (fE A) (fun x => vo (pSlug A x) (gOf (pSlug A x)) r) 100 98).1 ∧ Same σ e.2.2.2) := by
  have hW := h.2.2.2.1
  have w3 := hW.1.2.2.1
  have e40 : ∀ x, pSlug A x 40 = A 40 := fun x => by unfold pSlug; rw [pu_n _ _ (by omega), pu_n _ _ (by omega)]
  have hv : ∀ x, vo (pSlug A x) (gOf (pSlug A x)) r ≤ 6 := fun x => vo_le (by rw [e40]; exact w3)
  generalize hV : (fun x => vo (pSlug A x) (gOf (pSlug A x)) r) = V
  have hV' : ∀ x, vo (pSlug A x) (gOf (pSlug A x)) r = V x := fun x => by rw [← hV]
  have hv6 : ∀ x, V x ≤ 6 := fun x => by rw [← hV']; exact hv x
  refine wh_0 (P := fun k (s : Int32 × Int32 × Int32 × Sg) => s.1 = nI (fo (fE A) V 100 k).2 ∧ s.2.1 = b0 (fo (fE A) V 100 k).1 ∧ s.2.2.1 = nI k ∧ Same σ s.2.2.2) 98 (by omega) ⟨rfl, rfl, rfl, Same.rf⟩ ?_
  rintro k ⟨num, best, x, s⟩ hk ⟨e1, e2, e3, hs⟩
  dsimp at e1 e2 e3 hs
  subst e3
  unfold b_X10_bribe_42
  dsimp +instances only
  by_cases hlt : k < 98
  · left
    refine ⟨hlt, ok_f (show ¬ nI 98 ≤ nI k from nnle hlt (by omega)) ?_⟩
    have hI := h.same hs
    refine ok_bind (Q := fun j => j.1 = nI (fo (fE A) V 100 (k + 1)).2 ∧ j.2.1 = b0 (fo (fE A) V 100 (k + 1)).1 ∧ Same σ j.2.2) ?_ (fun j hj => ok_some ⟨_, rfl, hj.1, hj.2.1, nI_1 _, hj.2.2⟩)
    have hno : fE A k = false → Ok (some (num, best, s)) (fun j => j.1 = nI (fo (fE A) V 100 (k + 1)).2 ∧ j.2.1 = b0 (fo (fE A) V 100 (k + 1)).1 ∧ Same σ j.2.2) := fun z => by
      rw [fo_skip z]
      exact ok_some ⟨e1, e2, hs⟩
    by_cases hc : okc k
    · rw [mCell.1 ((isC_iff (by omega)).mpr hc), if_neg z10]
      have hf : f_X10_isFreeOn 0 (nI k) s = _ := m_isFreeOn (p := 0) hI.2.1 (by omega) hW.1 (by omega)
      rw [hf, Option.bind_some]
      by_cases hg : gOf A k = 0
      · rw [if_pos hg, if_neg z10]
        have hE : fE A k = true := fE_iff.mpr ⟨hc, hg⟩
        obtain ⟨s1, f1, f2, f3⟩ := m_copies (p := 0) (q := 164) hI.2.1 (by omega) (by omega) (by omega)
        obtain ⟨s2, g1, g2, g3⟩ := m_laysOn (p := 164) (c := k) f2 (by omega) h4
        have hWB := WF_pSlug hW h4 hg hc
        obtain ⟨⟨m, s3⟩, u1, u2, u3⟩ := m_winsAny (p := 164) g2 (by omega) hWB
        dsimp at u2 u3
        obtain ⟨⟨m', s4⟩, v1, v2, v3⟩ := m_wins (p := 164) (a := r) (g2.fr u3) (by omega) hWB hr
        dsimp at v2 v3
        have f1' : f_X10_copies 0 164 s = some s1 := f1
        have g1' : f_X10_laysOn 164 (nI k) s1 = some s2 := g1
        have u1' : f_X10_winsOn 164 (-4) s2 = some (m, s3) := u1
        have v1' : f_X10_winsOn 164 (nI r) s3 = some (m', s4) := v1
        have eb : f_X10_bitsOf (m &&& (m' ^^^ (-1 : Int32))) = some (nI (V k)) := by
          rw [u2, v2, bm_andnot _ _ (by rw [e40]; exact w3), m_bits _ (bm_1024 _ (by rw [e40]; omega)), pop_bm _ _ (by rw [e40]; omega), ← hV']
          rfl
        rw [f1', Option.bind_some, g1', Option.bind_some, u1', Option.bind_some]
        dsimp +instances only
        rw [v1', Option.bind_some]
        dsimp +instances only
        rw [eb, Option.bind_some]
        have hm := fo_le (e := fE A) (v := V) (n0 := 100) k
        obtain ⟨o1, o2⟩ := m_offerF (c := k) (v := V k) b0 b0_s e2 e1 (by have := hv6 k; omega) (by omega)
        simp only [app]
        rw [o1, o2]
        refine ok_some ⟨?_, ?_, (((hs.tr (Same.pg f3)).tr (Same.pg g3)).tr (Same.m u3)).tr (Same.m v3)⟩
        · conv => rhs; unfold fo
          rw [if_pos hE]
        · conv => rhs; unfold fo
          rw [if_pos hE]
      · rw [if_neg hg, if_pos rfl]
        exact hno (by
          cases z : fE A k with
          | false => rfl
          | true => exact absurd (fE_iff.mp z).2 hg)
    · rw [mCell.2 (fun z => hc ((isC_iff (by omega)).mp z)), if_pos rfl]
      exact hno (by
        cases z : fE A k with
        | false => rfl
        | true => exact absurd (fE_iff.mp z).1 hc)
  · right
    obtain rfl : k = 98 := by omega
    exact ok_t (by decide) (ok_some ⟨_, rfl, e1, e2, hs⟩)
theorem told_atF {s : Sg} {p : Nat × Nat} {a : Int32} (h2 : s 25 2 = rI p.1) (h3 : s 25 3 = nI p.2) (hp : p.1 < 2 ^ 31) : f_X0_told a s = if p.1 = 0 then -4 else if a = 0 then nI (p.1 - 1) else nI p.2 := by
  unfold f_X0_told
  rw [h2, h3]
  by_cases z : p.1 = 0
  · rw [z, if_pos rI_0, if_pos rfl]
  · rw [if_neg (fun q => z ((rI_none hp).mp q)), if_neg z]
    unfold rI
    rw [if_neg z]
theorem op_bribe {σ : Sg} (h : Inv σ) (a b : Int32) : Op (f_X9_bribe a b σ) (f_X10_bribe a b) := by
  obtain ⟨A, I, h⟩ := h
  have hW := h.2.2.2.1
  have w1 := hW.1.1
  have w2 := hW.1.2.1
  by_cases hv : vp_in a 4
  · by_cases hb : vp_in b 2
    · by_cases h4 : A 39 = 4
      · refine op_0 h (r := -3) ?_ ?_
        · unfold f_X9_bribe
          rw [xRag.1 hv, xHalf.1 hb, if_neg z10, if_neg z10, h.1.2.1, h4, if_neg (by decide)]
        · unfold f_X10_bribe
          rw [mRag.1 hv, mHalf.1 hb, if_neg z10, if_neg z10, c39, zrm h.2.1 (by omega), h4, if_pos (by decide)]
      · obtain ⟨r, hr, rfl⟩ := vin_nI hv (by omega)
        obtain ⟨x, hx, hE⟩ := free_cell (A := A) (by omega)
        have h98 : ∀ V, fo (fE A) V 7 100 = fo (fE A) V 7 98 := fun V => by
          have e8 : fE A 98 = false := by unfold fE; simp
          have e9 : fE A 99 = false := by unfold fE; simp
          rw [fo_skip e9, fo_skip e8]
        generalize hV : (fun x => vo (pSlug A x) (gOf (pSlug A x)) r) = V
        have hvV : ∀ x, V x ≤ 6 := fun x => by
          rw [← hV]
          exact vo_le (by
            have := hW.1.2.2.1
            have e40 : pSlug A x 40 = A 40 := by unfold pSlug; rw [pu_n _ _ (by omega), pu_n _ _ (by omega)]
            omega)
        have hne : (fo (fE A) V 7 98).1 ≠ 0 := fun z => by
          have := (fo_none (fun x => by have := hvV x; omega) 98 z).2 x hx
          rw [this] at hE
          cases hE
        have hq : fo (fE A) V 100 98 = fo (fE A) V 7 98 := by
          rcases fo_eq (e := fE A) (v := V) (n0 := 7) (m0 := 100) (fun x => by have := hvV x; omega) (fun x => by have := hvV x; omega) 98 with z | ⟨z, -⟩
          · exact z.symm
          · rw [z] at hne; exact absurd rfl hne
        have hm := fo_le (e := fE A) (v := V) (n0 := 7) 98
        refine op_q h (r := if b = 0 then nI ((fo (fE A) V 7 98).1 - 1) else nI (fo (fE A) V 7 98).2) ?_ (fun σ1 h' => ?_)
        · obtain ⟨g1, g2⟩ := x_copyFrom (b := 13) h.1 hW.1 (by omega)
          unfold f_X9_bribe
          rw [xRag.1 hv, xHalf.1 hb, if_neg z10, if_neg z10, h.1.2.1]
          refine ok_t (show nI (A 39) < nI 4 from nI_lt (by omega) (by omega)) (ok_app ?_)
          refine ok_bind (x_seekSlug g1 hW (by omega) hr) (fun y hy => ok_some ⟨?_, (Same.rf.s13 g2).tr hy.1⟩)
          rw [hV, h98] at hy
          dsimp only
          rw [told_atF hy.2.2.1 hy.2.2.2 (by omega), if_neg hne]
        · unfold f_X10_bribe
          rw [mRag.1 hv, mHalf.1 hb, if_neg z10, if_neg z10, c39, zrm h'.2.1 (by omega), if_neg (show ¬ nI (A 39) = 4 from nne (b := 4) h4 (by omega) (by omega))]
          refine ok_bind (m_seekSlug h' (by omega) hr) (fun e he => ?_)
          rw [hV, hq] at he
          obtain ⟨q1, q2, q3⟩ := he
          by_cases z : b = 0
          · rw [if_pos z, if_pos z]
            exact ok_some ⟨by dsimp only; rw [q2, b0_pos hne], q3⟩
          · rw [if_neg z, if_neg z]
            exact ok_some ⟨q1, q3⟩
    · refine op_0 h (r := -1) ?_ ?_
      · unfold f_X9_bribe
        rw [xRag.1 hv, xHalf.2 hb, if_neg z10, if_pos rfl]
      · unfold f_X10_bribe
        rw [mRag.1 hv, mHalf.2 hb, if_neg z10, if_pos rfl]
  · refine op_0 h (r := -1) ?_ ?_
    · unfold f_X9_bribe
      rw [xRag.2 hv, if_pos rfl]
    · unfold f_X10_bribe
      rw [mRag.2 hv, if_pos rfl]
