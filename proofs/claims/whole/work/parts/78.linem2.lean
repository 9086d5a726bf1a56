theorem k7_uniq : ∀ k, k < 7 → ∀ l, l < 7 → wlen k = wlen l → letN (cutN k) = letN (cutN l) → letN (cutN k + 1) = letN (cutN l + 1) → k = l := by decide
theorem wlen_2 : ∀ k, k < 7 → 2 < wlen k ∧ wlen k ≤ 5 := by decide
theorem mt_uniq {b : Nat → Nat} {ts te k l : Nat} (hk : k < 7) (hl : l < 7) (h1 : mt b ts te k = true) (h2 : mt b ts te l = true) : k = l := by
  obtain ⟨a1, a2⟩ := mt_iff.mp h1
  obtain ⟨b1, b2⟩ := mt_iff.mp h2
  have q1 := (wlen_2 k hk).1
  have q2 := (wlen_2 l hl).1
  refine k7_uniq k hk l hl (by omega) ?_ ?_
  · have := a2 0 (by omega)
    have := b2 0 (by omega)
    simp at *
    omega
  · have := a2 1 (by omega)
    have := b2 1 (by omega)
    omega
def rdk (b : Nat → Nat) (n k : Nat) (B : Pg) (t : Tk) : Ft ⊕ (Nat × Pg) := if k = 4 then rdPeg b n B t else if k = 5 then rdSlug b n B t else if k = 6 then rdSuit b n B t else rdHog b n k B t
theorem ln_at {b : Nat → Nat} {n k : Nat} {B : Pg} {t : Tk} (h1 : t.1 = 1) (hk : k < 7) (h : mt b t.2.1 t.2.2.1 k = true) : ln b n B t = rdk b n k B t := by
  have ne : ∀ l, l < 7 → l ≠ k → ¬ (t.1 = 1 ∧ mt b t.2.1 t.2.2.1 l = true) := fun l hl hn q => hn (mt_uniq hl hk q.2 h)
  unfold ln rdk
  rcases (show k = 0 ∨ k = 1 ∨ k = 2 ∨ k = 3 ∨ k = 4 ∨ k = 5 ∨ k = 6 by omega) with rfl | rfl | rfl | rfl | rfl | rfl | rfl
  · rw [if_neg (ne 4 (by omega) (by omega)), if_neg (ne 5 (by omega) (by omega)), if_neg (ne 6 (by omega) (by omega)), if_pos ⟨h1, h⟩]; rfl
  · rw [if_neg (ne 4 (by omega) (by omega)), if_neg (ne 5 (by omega) (by omega)), if_neg (ne 6 (by omega) (by omega)), if_neg (ne 0 (by omega) (by omega)), if_pos ⟨h1, h⟩]; rfl
  · rw [if_neg (ne 4 (by omega) (by omega)), if_neg (ne 5 (by omega) (by omega)), if_neg (ne 6 (by omega) (by omega)), if_neg (ne 0 (by omega) (by omega)), if_neg (ne 1 (by omega) (by omega)), if_pos ⟨h1, h⟩]; rfl
  · rw [if_neg (ne 4 (by omega) (by omega)), if_neg (ne 5 (by omega) (by omega)), if_neg (ne 6 (by omega) (by omega)), if_neg (ne 0 (by omega) (by omega)), if_neg (ne 1 (by omega) (by omega)), if_neg (ne 2 (by omega) (by omega)), if_pos ⟨h1, h⟩]; rfl
  · rw [if_pos ⟨h1, h⟩]; rfl
  · rw [if_neg (ne 4 (by omega) (by omega)), if_pos ⟨h1, h⟩]; rfl
  · rw [if_neg (ne 4 (by omega) (by omega)), if_neg (ne 5 (by omega) (by omega)), if_pos ⟨h1, h⟩]; rfl
theorem ln_no {b : Nat → Nat} {n : Nat} {B : Pg} {t : Tk} (h : ∀ k, k < 7 → ¬ (t.1 = 1 ∧ mt b t.2.1 t.2.2.1 k = true)) : ln b n B t = .inl (2, t.2.1) := by
  unfold ln
  rw [if_neg (h 4 (by omega)), if_neg (h 5 (by omega)), if_neg (h 6 (by omega)), if_neg (h 0 (by omega)), if_neg (h 1 (by omega)), if_neg (h 2 (by omega)), if_neg (h 3 (by omega))]
/-! which name -/
theorem cut_s : ∀ k, k < 7 → cutN k ≤ cutN (k + 1) := by decide
theorem m_same {b : Nat → Nat} {n k : Nat} {t : Tk} {σ : Sg} (h : TM b n σ) (hC : Cst σ) (hM : ML (.inr t) σ) (hk : k < 7) (h1 : t.2.1 ≤ t.2.2.1) (he : t.2.2.1 ≤ n) : Ok (wh (b_X10_nameHere_51 σ (nI k)) 4096 ((if nI (t.2.2.1 - t.2.1) = nI (wlen k) then (1 : Int32) else 0), (0 : Int32))) (fun e => e.1 = if mt b t.2.1 t.2.2.1 k = true then 1 else 0) := by
  have hn := h.1
  have hw := wlen_2 k hk
  by_cases hl : t.2.2.1 - t.2.1 = wlen k
  · rw [if_pos (by rw [hl])]
    refine wh_1 (P := fun j (e : Int32 × Int32) => e.2 = nI j ∧ ((j ≤ wlen k ∧ e.1 = 1 ∧ ∀ i, i < j → b (t.2.1 + i) = letN (cutN k + i)) ∨ (e.1 = 0 ∧ ∃ i, i < wlen k ∧ b (t.2.1 + i) ≠ letN (cutN k + i)))) 6 (by omega) ⟨rfl, Or.inl ⟨Nat.zero_le _, rfl, fun i hi => by omega⟩⟩ ?_
    rintro j ⟨f, x⟩ hj ⟨e1, e2⟩
    dsimp at e1 e2
    subst e1
    unfold b_X10_nameHere_51
    dsimp +instances only
    rw [hM.2.2.1, hM.2.2.2.1, nI_sub h1, hl]
    rcases e2 with ⟨q1, rfl, q2⟩ | ⟨rfl, i, q1, q2⟩
    · refine ok_f z10 ?_
      by_cases hlt : j < wlen k
      · have hb := h.2.2 (t.2.1 + j) (by omega)
        have hc := cut_le k hk
        have hl2 := letN_lt (cutN k + j) (by omega)
        refine ok_f (nnle hlt (by omega)) ?_
        rw [nI_add, m_byte h (by omega), Option.bind_some]
        refine ok_in (vp_in_nI (by omega) (by omega)) ?_
        rw [nI_clamp (by omega), hC.1 k (by omega), nI_add]
        refine ok_in (vp_in_nI (by omega) (by omega)) (ok_app ?_)
        rw [nI_clamp (by omega), hC.2 _ (by omega)]
        by_cases c : b (t.2.1 + j) = letN (cutN k + j)
        · rw [if_pos (by rw [c])]
          refine ok_some (Or.inl ⟨by omega, _, rfl, nI_1 _, Or.inl ⟨by omega, rfl, fun i hi => ?_⟩⟩)
          by_cases e : i = j
          · rw [e]; exact c
          · exact q2 i (by omega)
        · rw [if_neg (fun q => c ((nI_eq (by omega) (by omega)).mp q))]
          exact ok_some (Or.inl ⟨by omega, _, rfl, nI_1 _, Or.inr ⟨rfl, j, hlt, c⟩⟩)
      · refine ok_t (nle (by omega) (by omega)) (ok_some (Or.inr ⟨_, rfl, ?_⟩))
        dsimp only
        rw [if_pos (mt_iff.mpr ⟨hl, fun i hi => q2 i (by omega)⟩)]
    · refine ok_t rfl (ok_some (Or.inr ⟨_, rfl, ?_⟩))
      dsimp only
      rw [if_neg (fun z => q2 ((mt_iff.mp z).2 i q1))]
  · rw [if_neg (fun q => hl ((nI_eq (by omega) (by omega)).mp q))]
    refine ok_eq (x := (0, 0)) ?_ ?_
    · unfold wh b_X10_nameHere_51
      dsimp +instances only
      rw [if_pos rfl]
    · dsimp only
      rw [if_neg (fun z => hl (mt_iff.mp z).1)]
theorem m_name {b : Nat → Nat} {n : Nat} {t : Tk} {σ : Sg} (h : TM b n σ) (hC : Cst σ) (hM : ML (.inr t) σ) (ht : t.1 ≤ 3) (h1 : t.2.1 ≤ t.2.2.1) (he : t.2.2.1 ≤ n) : (∃ k, k < 7 ∧ t.1 = 1 ∧ mt b t.2.1 t.2.2.1 k = true ∧ f_X10_nameHere σ = some (nI k)) ∨ ((∀ k, k < 7 → ¬ (t.1 = 1 ∧ mt b t.2.1 t.2.2.1 k = true)) ∧ f_X10_nameHere σ = some (-4)) := by
  have hn := h.1
  have key : Ok (wh (b_X10_nameHere_2 σ) 4096 (0 : Int32)) (fun r => (∃ x, r = .inl x ∧ ∀ k, k < 7 → ¬ (t.1 = 1 ∧ mt b t.2.1 t.2.2.1 k = true)) ∨ ∃ k, r = .inr (nI k) ∧ k < 7 ∧ t.1 = 1 ∧ mt b t.2.1 t.2.2.1 k = true) := by
    refine wh_1 (P := fun k (x : Int32) => x = nI k ∧ ∀ l, l < k → ¬ (t.1 = 1 ∧ mt b t.2.1 t.2.2.1 l = true)) 7 (by omega) ⟨rfl, fun l hl => by omega⟩ ?_
    rintro k x hk ⟨rfl, hno⟩
    unfold b_X10_nameHere_2
    by_cases hlt : k < 7
    · refine ok_f (show ¬ (7 : Int32) ≤ nI k from nnle (b := 7) hlt (by omega)) ?_
      by_cases z : t.1 = 1
      · refine ok_t ((m_tk hM ht (k := 1) (by omega)).mpr z) ?_
        rw [nI_1]
        refine ok_in (vp_in_nI (by omega) (by omega)) (ok_in (vp_in_nI (by omega) (by omega)) ?_)
        rw [nI_clamp (by omega), nI_clamp (by omega), hC.1 k (by omega), hC.1 (k + 1) (by omega), nI_sub (cut_s k hlt), hM.2.2.1, hM.2.2.2.1, nI_sub h1]
        refine ok_app ?_
        refine ok_bind (m_same h hC hM hlt h1 he) (fun e hv => ?_)
        rw [hv]
        by_cases g : mt b t.2.1 t.2.2.1 k = true
        · rw [if_pos g]
          exact ok_f z10 (ok_some (Or.inr ⟨_, rfl, Or.inr ⟨k, rfl, hlt, z, g⟩⟩))
        · rw [if_neg g]
          refine ok_t rfl (ok_some (Or.inl ⟨hlt, _, rfl, rfl, fun l hl => ?_⟩))
          by_cases e : l = k
          · rw [e]; exact fun q => g q.2
          · exact hno l (by omega)
      · refine ok_f (fun q => z ((m_tk hM ht (k := 1) (by omega)).mp q)) (ok_some (Or.inr ⟨_, rfl, Or.inl ⟨_, rfl, fun k _ q => z q.1⟩⟩))
    · obtain rfl : k = 7 := by omega
      exact ok_t (by decide) (ok_some (Or.inr ⟨_, rfl, Or.inl ⟨_, rfl, hno⟩⟩))
  obtain ⟨r, e, hr⟩ := key
  unfold f_X10_nameHere
  rw [e, Option.bind_some]
  rcases hr with ⟨x, rfl, q⟩ | ⟨k, rfl, q1, q2, q3⟩
  · exact Or.inr ⟨q, rfl⟩
  · exact Or.inl ⟨k, q1, q2, q3, rfl⟩
/-- a line's end -/
def tail (b : Nat → Nat) (n : Nat) (p : Nat × Pg) : Ft ⊕ (Nat × Pg) := eb (eb (lx b n p.1) sem) fun t3 => .inr (t3.2.2.1, p.2)
theorem m_tail {b : Nat → Nat} {n : Nat} {x : Ft ⊕ (Nat × Pg)} {y : Sg} (h : TM b n y) (hM : MW b n x y) (hx : ∀ p, x = .inr p → p.1 ≤ n) : Ok (app (if (y 75 8) = 0 then
        if (y 75 12) = (3 : Int32) then
          y
        else
          (f_X10_fails (2 : Int32) y)
      else
        y) fun (j8 : Sg) =>
      (f_X10_step j8).bind fun (y11 : Sg) =>
      some y11) (fun y' => MW b n (eb x (tail b n)) y' ∧ A75 y y') := by
  rcases x with q | p
  · have hM' : ML (.inl q) y := hM
    rw [if_neg hM'.ne]
    refine ok_app ?_
    rw [m_step_no hM', Option.bind_some]
    exact ok_some ⟨hM', A75.rf⟩
  · obtain ⟨u1, u2⟩ := hM
    have hp := hx p rfl
    rw [eb_r]
    unfold tail
    cases hl : lx b n p.1 with
    | inl q =>
      rw [hl] at u1
      rw [if_neg u1.ne]
      refine ok_app ?_
      rw [m_step_no u1, Option.bind_some]
      exact ok_some ⟨u1, A75.rf⟩
    | inr t =>
      rw [hl] at u1
      obtain ⟨l1, l2, l3, l4, l5, l6⟩ := lx_ok hp hl
      rw [eb_r, if_pos u1.1]
      have k3 : y 75 12 = (3 : Int32) ↔ t.1 = 3 := m_tk u1 l4 (k := 3) (by omega)
      unfold sem
      by_cases z : t.1 = 3
      · rw [if_pos (k3.mpr z), if_pos z, eb_r]
        refine ok_app (ok_bind (m_adv h u1 l3) (fun w hw => ok_some ⟨⟨hw.1, u2.a hw.2⟩, hw.2⟩))
      · have f2 := m_fails (c := 2) (by omega) (by omega) u1.1 u1.2.2.1
        have f2' : ML (.inl (2, t.2.1)) (f_X10_fails 2 y) := f2.1
        rw [if_neg (fun q => z (k3.mp q)), if_neg z]
        refine ok_app ?_
        rw [m_step_no f2', Option.bind_some]
        exact ok_some ⟨f2', f2.2⟩
theorem Cst.a7 {σ σ1 : Sg} (h : Cst σ) (hf : A7 σ σ1) : Cst σ1 := h.ag hf (fun c j z => by unfold T7 at z; omega)
/-- a line whose name is k -/
theorem m_lineK {b : Nat → Nat} {n k : Nat} {B : Pg} {t : Tk} {σ : Sg} {full : Prop} [d : Decidable full] {mr : Tk → Ft ⊕ (Nat × Pg)} (h : TM b n σ) (hM : ML (.inr t) σ) (hR : RD B σ) (hk : k < 7) (he : t.2.2.1 ≤ n)
    (hN : f_X10_nameHere σ = some (nI k)) (hfull : f_X10_isFull (nI k) σ = if full then 1 else 0)
    (hmr : ¬ full → ∀ t0 p, t0.2.2.1 ≤ n → mr t0 = .inr p → p.1 ≤ n)
    (hmore : ¬ full → ∀ t0 s, TM b n s → ML (.inr t0) s → RD B s → t0.1 ≤ 3 → t0.2.2.1 ≤ n → t0.2.2.2 ≤ 99 → Ok (f_X10_readMore (nI k) s) (fun y => MW b n (mr t0) y ∧ A7 s y)) :
    Ok (f_X10_readLine σ) (fun y => MW b n (if full then .inl (5, t.2.1) else eb (lx b n t.2.2.1) fun t0 => eb (mr t0) (tail b n)) y ∧ A7 σ y) := by
  have m7 := mIn0 (x := nI k) (hi := 6) (n := 7) (by decide)
  unfold f_X10_readLine
  rw [hN, Option.bind_some]
  refine ok_f (by rw [m7.1 (vp_in_nI hk (by omega))]; decide) ?_
  rw [hfull]
  by_cases hf : full
  · rw [if_pos hf, if_pos hf, if_neg z10]
    obtain ⟨f1, f2⟩ := m_fails (c := 5) (by omega) (by omega) hM.1 hM.2.2.1
    have f1' : ML (.inl (5, t.2.1)) (f_X10_fails 5 σ) := f1
    refine ok_app ?_
    rw [m_step_no f1', Option.bind_some]
    exact ok_f f1'.gt (ok_some ⟨f1', A7.rf.a f2⟩)
  · rw [if_neg hf, if_neg hf, if_pos rfl]
    refine ok_app (ok_bind (m_adv h hM he) (fun y hy => ?_))
    obtain ⟨u1, u2⟩ := hy
    cases hl : lx b n t.2.2.1 with
    | inl q =>
      rw [hl] at u1
      exact ok_f u1.gt (ok_some ⟨u1, A7.rf.a u2⟩)
    | inr t0 =>
      rw [hl] at u1
      obtain ⟨l1, l2, l3, l4, l5, l6⟩ := lx_ok he hl
      refine ok_t (by rw [u1.1]; decide) ?_
      refine ok_bind (hmore hf t0 y (h.f u2) u1 (hR.a u2) l4 l3 l6) (fun y7 hy7 => ?_)
      rw [eb_r]
      refine ok_mono (m_tail ((h.f u2).g hy7.2) hy7.1 (fun p hp => hmr hf t0 p l3 hp)) (fun w hw => ⟨hw.1, ((A7.rf.a u2).tr hy7.2).a hw.2⟩)
