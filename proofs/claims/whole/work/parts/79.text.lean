theorem eb_assoc {X Y Z : Type} (x : Ft ⊕ X) (f : X → Ft ⊕ Y) (g : Y → Ft ⊕ Z) : eb (eb x f) g = eb x (fun v => eb (f v) g) := by
  rcases x with q | v <;> rfl
theorem rdPeg_eq (b : Nat → Nat) (n : Nat) (B : Pg) (t : Tk) : rdPeg b n B t = if 7 ≤ B 38 then .inl (5, t.2.1) else eb (lx b n t.2.2.1) fun t0 => eb (mrPeg b n B t0) (tail b n) := by
  unfold rdPeg mrPeg tail
  simp only [eb_assoc, eb_r]
theorem rdSlug_eq (b : Nat → Nat) (n : Nat) (B : Pg) (t : Tk) : rdSlug b n B t = if 4 ≤ B 39 then .inl (5, t.2.1) else eb (lx b n t.2.2.1) fun t0 => eb (mrSlug B t0) (tail b n) := by
  unfold rdSlug mrSlug tail
  simp only [eb_assoc, eb_r]
theorem rdSuit_eq (b : Nat → Nat) (n : Nat) (B : Pg) (t : Tk) : rdSuit b n B t = if 6 ≤ B 40 then .inl (5, t.2.1) else eb (lx b n t.2.2.1) fun t0 => eb (mrSuit b n B t0) (tail b n) := by
  unfold rdSuit mrSuit tail
  simp only [eb_assoc, eb_r]
theorem rdHog_eq (b : Nat → Nat) (n k : Nat) (B : Pg) (t : Tk) : rdHog b n k B t = if 4 ≤ B 41 then .inl (5, t.2.1) else eb (lx b n t.2.2.1) fun t0 => eb (mrHog k B t0) (tail b n) := by
  unfold rdHog mrHog tail
  simp only [eb_assoc, eb_r]
theorem eq_max {a m : Nat} (h : a ≤ m) (hm : m < 2 ^ 31) : (if nI a = nI m then (1 : Int32) else 0) = if m ≤ a then 1 else 0 := by
  by_cases z : a = m
  · rw [if_pos (by rw [z]), if_pos (by omega)]
  · rw [if_neg (fun q => z ((nI_eq (by omega) (by omega)).mp q)), if_neg (by omega)]
theorem m_readLine {b : Nat → Nat} {n : Nat} {B : Pg} {t : Tk} {σ : Sg} (h : TM b n σ) (hC : Cst σ) (hM : ML (.inr t) σ) (hR : RD B σ) (hW : WFs B) (ht : t.1 ≤ 3) (h1 : t.2.1 ≤ t.2.2.1) (he : t.2.2.1 ≤ n) : Ok (f_X10_readLine σ) (fun y => MW b n (ln b n B t) y ∧ A7 σ y) := by
  have w1 := hW.1
  have w2 := hW.2.1
  have w3 := hW.2.2.1
  have w4 := hW.2.2.2.1
  rcases m_name h hC hM ht h1 he with ⟨k, hk, k1, k2, k3⟩ | ⟨k1, k2⟩
  · rw [ln_at k1 hk k2]
    unfold rdk
    by_cases c4 : k = 4
    · subst c4
      rw [if_pos rfl, rdPeg_eq]
      refine m_lineK h hM hR hk he k3 ?_ (fun hf t0 p h0 hp => ?_) (fun hf t0 s q1 q2 q3 q4 q5 q6 => m_morePeg q1 q2 q3 hW q4 q5 q6 (by omega))
      · unfold f_X10_isFull
        rw [c38, hR.1 38 (by omega)]
        exact eq_max (m := 7) w1 (by omega)
      · unfold mrPeg at hp
        obtain ⟨t1, p1, hp⟩ := eb_inr hp
        obtain ⟨t2, p2, hp⟩ := eb_inr hp
        injection hp with hp
        subst hp
        obtain ⟨rfl, -⟩ := cel_in p1
        exact (lx_num h0 p2).2.2.2.1
    · rw [if_neg c4]
      by_cases c5 : k = 5
      · subst c5
        rw [if_pos rfl, rdSlug_eq]
        refine m_lineK h hM hR hk he k3 ?_ (fun hf t0 p h0 hp => ?_) (fun hf t0 s q1 q2 q3 q4 q5 q6 => m_moreSlug q1 q2 q3 hW q4 q5 q6 (by omega))
        · unfold f_X10_isFull
          rw [c39, hR.1 39 (by omega)]
          exact eq_max (m := 4) w2 (by omega)
        · unfold mrSlug at hp
          obtain ⟨t1, p1, hp⟩ := eb_inr hp
          injection hp with hp
          subst hp
          obtain ⟨rfl, -⟩ := cel_in p1
          exact h0
      · rw [if_neg c5]
        by_cases c6 : k = 6
        · subst c6
          rw [if_pos rfl, rdSuit_eq]
          refine m_lineK h hM hR hk he k3 ?_ (fun hf t0 p h0 hp => ?_) (fun hf t0 s q1 q2 q3 q4 q5 q6 => m_moreSuit q1 q2 q3 hW q4 q5 q6 (by omega))
          · unfold f_X10_isFull
            rw [c40, hR.1 40 (by omega)]
            exact eq_max (m := 6) w3 (by omega)
          · unfold mrSuit at hp
            obtain ⟨t1, p1, hp⟩ := eb_inr hp
            obtain ⟨t2, p2, hp⟩ := eb_inr hp
            injection hp with hp
            subst hp
            obtain ⟨rfl, -⟩ := num_in p1
            exact (lx_num h0 p2).2.2.2.1
        · rw [if_neg c6, rdHog_eq]
          refine m_lineK h hM hR hk he k3 ?_ (fun hf t0 p h0 hp => ?_) (fun hf t0 s q1 q2 q3 q4 q5 q6 => m_moreHog q1 q2 q3 hW q4 q5 q6 (by omega) (by omega))
          · unfold f_X10_isFull
            rw [if_neg (show ¬ (3 : Int32) < nI k from nI_nlt (a := 3) (by omega) (by omega)), hR.2.1]
            exact eq_max (m := 4) w4 (by omega)
          · unfold mrHog at hp
            obtain ⟨t1, p1, hp⟩ := eb_inr hp
            injection hp with hp
            subst hp
            obtain ⟨rfl, -⟩ := num_in p1
            exact h0
  · rw [ln_no k1]
    unfold f_X10_readLine
    rw [k2, Option.bind_some]
    have f2 := m_fails (c := 2) (by omega) (by omega) hM.1 hM.2.2.1
    exact ok_t (by decide) (ok_some ⟨f2.1, A7.rf.a f2.2⟩)
theorem ln_ok {b : Nat → Nat} {n : Nat} {B : Pg} {t : Tk} {p : Nat × Pg} (hW : WFs B) (he : t.2.2.1 ≤ n) (h : ln b n B t = .inr p) : WFs p.2 ∧ t.2.2.1 ≤ p.1 ∧ p.1 ≤ n := by
  have w1 := hW.1
  have kp : rdPeg b n B t = .inr p → WFs p.2 ∧ t.2.2.1 ≤ p.1 ∧ p.1 ≤ n := fun h => by
    unfold rdPeg at h
    by_cases hf : 7 ≤ B 38
    · rw [if_pos hf] at h; cases h
    · rw [if_neg hf] at h
      obtain ⟨t1, p1, h⟩ := eb_inr h
      obtain ⟨t2, p2, h⟩ := eb_inr h
      obtain ⟨t3, p3, h⟩ := eb_inr h
      injection h with h
      subst h
      obtain ⟨-, a1, a2, a3, a4, a5⟩ := lx_cel he p1
      obtain ⟨-, b1, b2, b3, b4, b5⟩ := lx_num a3 p2
      obtain ⟨-, c1, c2, c3⟩ := lx_sem b3 p3
      exact ⟨WFs_pPeg hW (by omega) a5 a4 (by omega), by dsimp only; omega, c3⟩
  have ks : rdSlug b n B t = .inr p → WFs p.2 ∧ t.2.2.1 ≤ p.1 ∧ p.1 ≤ n := fun h => by
    unfold rdSlug at h
    by_cases hf : 4 ≤ B 39
    · rw [if_pos hf] at h; cases h
    · rw [if_neg hf] at h
      obtain ⟨t1, p1, h⟩ := eb_inr h
      obtain ⟨t3, p3, h⟩ := eb_inr h
      injection h with h
      subst h
      obtain ⟨-, a1, a2, a3, a4, a5⟩ := lx_cel he p1
      obtain ⟨-, c1, c2, c3⟩ := lx_sem a3 p3
      exact ⟨WFs_pSlug hW (by omega) a5 a4, by dsimp only; omega, c3⟩
  have ku : rdSuit b n B t = .inr p → WFs p.2 ∧ t.2.2.1 ≤ p.1 ∧ p.1 ≤ n := fun h => by
    unfold rdSuit at h
    by_cases hf : 6 ≤ B 40
    · rw [if_pos hf] at h; cases h
    · rw [if_neg hf] at h
      obtain ⟨t1, p1, h⟩ := eb_inr h
      obtain ⟨t2, p2, h⟩ := eb_inr h
      obtain ⟨t3, p3, h⟩ := eb_inr h
      injection h with h
      subst h
      obtain ⟨-, a1, a2, a3, a4, a5⟩ := lx_num he p1
      obtain ⟨-, b1, b2, b3, b4, b5⟩ := lx_num a3 p2
      obtain ⟨-, c1, c2, c3⟩ := lx_sem b3 p3
      exact ⟨WFs_pSuit hW (by omega) (by omega) (by omega), by dsimp only; omega, c3⟩
  have kh : ∀ k, k < 4 → rdHog b n k B t = .inr p → WFs p.2 ∧ t.2.2.1 ≤ p.1 ∧ p.1 ≤ n := fun k hk h => by
    unfold rdHog at h
    by_cases hf : 4 ≤ B 41
    · rw [if_pos hf] at h; cases h
    · rw [if_neg hf] at h
      obtain ⟨t1, p1, h⟩ := eb_inr h
      obtain ⟨t3, p3, h⟩ := eb_inr h
      injection h with h
      subst h
      obtain ⟨-, a1, a2, a3, a4, a5⟩ := lx_num he p1
      obtain ⟨-, c1, c2, c3⟩ := lx_sem a3 p3
      exact ⟨WFs_pHh hW (by omega) hk ⟨a4, a5⟩, by dsimp only; omega, c3⟩
  unfold ln at h
  split at h
  · exact kp h
  · split at h
    · exact ks h
    · split at h
      · exact ku h
      · split at h
        · exact kh 0 (by omega) h
        · split at h
          · exact kh 1 (by omega) h
          · split at h
            · exact kh 2 (by omega) h
            · split at h
              · exact kh 3 (by omega) h
              · cases h
/-! all lines -/
abbrev Sx := Ft ⊕ (Tk × Pg)
def nxt (b : Nat → Nat) (n : Nat) (p : Nat × Pg) : Sx := eb (lx b n p.1) fun t => .inr (t, p.2)
def stp (b : Nat → Nat) (n : Nat) : Sx → Sx
  | .inl q => .inl q
  | .inr (t, B) => eb (ln b n B t) (nxt b n)
def P0 : Pg := fun _ => 0
def stK (b : Nat → Nat) (n : Nat) : Nat → Sx
  | 0 => nxt b n (0, P0)
  | k + 1 => stp b n (stK b n k)
def halt : Sx → Bool
  | .inl _ => true
  | .inr (t, _) => decide (t.1 = 0)
def SoK (n k : Nat) : Sx → Prop
  | .inl _ => True
  | .inr (t, B) => WFs B ∧ t.1 ≤ 3 ∧ k ≤ t.2.1 ∧ t.2.1 ≤ t.2.2.1 ∧ t.2.2.1 ≤ n ∧ t.2.2.2 ≤ 99 ∧ (t.1 ≠ 0 → t.2.1 < t.2.2.1)
theorem nxt_ok {b : Nat → Nat} {n k : Nat} {p : Nat × Pg} (hp : p.1 ≤ n) (hW : WFs p.2) (hk : k ≤ p.1) : SoK n k (nxt b n p) := by
  unfold nxt
  cases hl : lx b n p.1 with
  | inl q => exact True.intro
  | inr t =>
    obtain ⟨l1, l2, l3, l4, l5, l6⟩ := lx_ok hp hl
    exact ⟨hW, l4, by omega, l2, l3, l6, l5⟩
theorem P0_ok : WFs P0 := by
  refine ⟨Nat.zero_le _, Nat.zero_le _, Nat.zero_le _, Nat.zero_le _, fun i hi => ?_, fun i hi => ?_, fun i hi => ?_, fun i hi => ?_, fun i j hi => ?_, fun i j hi => ?_, fun i j hi => ?_⟩ <;> exact absurd hi (Nat.not_lt_zero _)
theorem stK_ok {b : Nat → Nat} {n : Nat} : ∀ k, (∀ j, j < k → halt (stK b n j) = false) → SoK n k (stK b n k) := by
  intro k
  induction k with
  | zero => intro _; exact nxt_ok (Nat.zero_le _) P0_ok (Nat.le_refl _)
  | succ k ih =>
    intro h
    have h1 := ih (fun j hj => h j (by omega))
    have h2 := h k (by omega)
    show SoK n (k + 1) (stp b n (stK b n k))
    cases hs : stK b n k with
    | inl q => exact True.intro
    | inr tb =>
      obtain ⟨t, B⟩ := tb
      rw [hs] at h1 h2
      obtain ⟨q1, q2, q3, q4, q5, q6, q7⟩ := h1
      have ht : t.1 ≠ 0 := fun z => by
        have h2' : decide (t.1 = 0) = false := h2
        rw [z] at h2'
        cases h2'
      show SoK n (k + 1) (eb (ln b n B t) (nxt b n))
      cases hl : ln b n B t with
      | inl q => exact True.intro
      | inr p =>
        obtain ⟨r1, r2, r3⟩ := ln_ok q1 q5 hl
        have := q7 ht
        exact nxt_ok r3 r1 (by omega)
theorem first_true (f : Nat → Bool) : ∀ N, (∃ K, K ≤ N ∧ f K = true ∧ ∀ j, j < K → f j = false) ∨ ∀ j, j ≤ N → f j = false := by
  intro N
  induction N with
  | zero =>
    cases h : f 0 with
    | true => exact Or.inl ⟨0, Nat.le_refl _, h, fun j hj => by omega⟩
    | false => exact Or.inr (fun j hj => by rw [show j = 0 by omega]; exact h)
  | succ N ih =>
    rcases ih with ⟨K, q1, q2, q3⟩ | q
    · exact Or.inl ⟨K, by omega, q2, q3⟩
    · cases h : f (N + 1) with
      | true => exact Or.inl ⟨N + 1, Nat.le_refl _, h, fun j hj => q j (by omega)⟩
      | false => exact Or.inr (fun j hj => by
          by_cases e : j = N + 1
          · rw [e]; exact h
          · exact q j (by omega))
theorem stK_end {b : Nat → Nat} {n m : Nat} (hn : n ≤ m) : ∃ K, K ≤ m ∧ halt (stK b n K) = true ∧ ∀ j, j < K → halt (stK b n j) = false := by
  rcases first_true (fun k => halt (stK b n k)) m with h | h
  · exact h
  · exfalso
    have h1 := stK_ok (b := b) (n := n) m (fun j hj => h j (by omega))
    have h2 := h m (Nat.le_refl _)
    cases hs : stK b n m with
    | inl q => rw [hs] at h2; cases h2
    | inr tb =>
      obtain ⟨t, B⟩ := tb
      rw [hs] at h1 h2
      obtain ⟨q1, q2, q3, q4, q5, q6, q7⟩ := h1
      have ht : t.1 ≠ 0 := fun z => by
        have h2' : decide (t.1 = 0) = false := h2
        rw [z] at h2'
        cases h2'
      have := q7 ht
      omega
