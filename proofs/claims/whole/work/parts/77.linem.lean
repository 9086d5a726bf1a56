/-! lines, as the reference reads them -/
theorem ML.k {x : Ft ⊕ Tk} {σ σ' : Sg} (h : ML x σ) (hk : ∀ j, 8 ≤ j → j ≤ 13 → σ' 75 j = σ 75 j) : ML x σ' := by
  rcases x with q | t
  · exact ⟨h.1, h.2.1, by rw [hk _ (by omega) (by omega)]; exact h.2.2.1, by rw [hk _ (by omega) (by omega)]; exact h.2.2.2⟩
  · exact ⟨by rw [hk _ (by omega) (by omega)]; exact h.1, by rw [hk _ (by omega) (by omega)]; exact h.2.1, by rw [hk _ (by omega) (by omega)]; exact h.2.2.1, by rw [hk _ (by omega) (by omega)]; exact h.2.2.2.1, fun z => by rw [hk _ (by omega) (by omega)]; exact h.2.2.2.2 z⟩
theorem ML.u {x : Ft ⊕ Tk} {σ : Sg} {i : Nat} {v : Int32} (h : ML x σ) : ML x (up2 σ 77 i v) := h.k (fun j _ _ => by rw [up2_cell _ _ _ (by decide)])
theorem m_fails_no {q : Ft} {σ : Sg} {c : Int32} (h : ML (.inl q) σ) : f_X10_fails c σ = σ := by
  unfold f_X10_fails
  rw [if_neg h.ne]
theorem m_number_no {q : Ft} {σ : Sg} {lo hi : Int32} (h : ML (.inl q) σ) : f_X10_number lo hi σ = some (lo, σ) := by
  unfold f_X10_number
  simp only [app, if_neg h.ne, m_step_no h, Option.bind_some]
theorem m_tk {t : Tk} {σ : Sg} (h : ML (.inr t) σ) (ht : t.1 ≤ 3) {k : Nat} (hk : k ≤ 3) : σ 75 12 = nI k ↔ t.1 = k := by
  rw [h.2.1, nI_eq (by omega) (by omega)]
def NM (b : Nat → Nat) (n : Nat) : Ft ⊕ Tk → Int32 × Sg → Prop
  | .inl q, y => ML (.inl q) y.2
  | .inr u, y => ML (lx b n u.2.2.1) y.2 ∧ y.1 = nI u.2.2.2
theorem m_adv {b : Nat → Nat} {n : Nat} {t : Tk} {σ : Sg} (h : TM b n σ) (hM : ML (.inr t) σ) (he : t.2.2.1 ≤ n) : Ok (f_X10_step σ) (fun y => ML (lx b n t.2.2.1) y ∧ A75 σ y) := m_step' h he hM.1 hM.2.2.2.1
theorem m_number {b : Nat → Nat} {n lo hi : Nat} {t : Tk} {σ : Sg} (h : TM b n σ) (hM : ML (.inr t) σ) (ht : t.1 ≤ 3) (he : t.2.2.1 ≤ n) (hv : t.2.2.2 ≤ 99) (hlo : lo < 2 ^ 30) (hhi : hi < 2 ^ 30) : Ok (f_X10_number (nI lo) (nI hi) σ) (fun y => NM b n (num lo hi t) y ∧ A75 σ y.2) := by
  unfold f_X10_number num
  have k2 : σ 75 12 = (2 : Int32) ↔ t.1 = 2 := m_tk hM ht (k := 2) (by omega)
  have f2 := m_fails (c := 2) (by omega) (by omega) hM.1 hM.2.2.1
  have f3 := m_fails (c := 3) (by omega) (by omega) hM.1 hM.2.2.1
  have f2' : ML (.inl (2, t.2.1)) (f_X10_fails 2 σ) := f2.1
  have f3' : ML (.inl (3, t.2.1)) (f_X10_fails 3 σ) := f3.1
  by_cases z : t.1 = 2
  · have z7 := hM.2.2.2.2 z
    have hin := mIn (x := nI t.2.2.2) (lo := (nI lo).toInt64) (hi := (nI hi).toInt64) (l := lo) (h := hi) (cl_toInt (by omega)) (cl_toInt (by omega))
    rw [nI_toInt (by omega)] at hin
    rw [if_pos hM.1, if_pos (k2.mpr z), if_pos z]
    by_cases g : lo ≤ t.2.2.2 ∧ t.2.2.2 ≤ hi
    · rw [if_pos g]
      simp only [app]
      rw [if_pos hM.1, z7, hin.1 (by omega), if_neg z10, if_pos hM.1]
      exact ok_bind (m_adv h hM he) (fun y hy => ok_some ⟨⟨hy.1, z7⟩, hy.2⟩)
    · rw [if_neg g]
      simp only [app]
      rw [if_pos hM.1, z7, hin.2 (by omega), if_pos rfl, if_neg f3'.ne, m_step_no f3', Option.bind_some]
      exact ok_some ⟨f3', f3.2⟩
  · rw [if_pos hM.1, if_neg (fun q => z (k2.mp q)), if_neg z]
    simp only [app]
    rw [if_neg f2'.ne, if_neg f2'.ne, m_step_no f2', Option.bind_some]
    exact ok_some ⟨f2', f2.2⟩
def R7 (B : Pg) (σ : Sg) : Prop := ∀ k, k < 41 → σ 77 k = nI (B k)
theorem R7.k {B : Pg} {σ σ' : Sg} (h : R7 B σ) (hk : σ' 77 = σ 77) : R7 B σ' := fun j hj => by rw [hk]; exact h j hj
theorem R7.a {B : Pg} {σ σ' : Sg} (h : R7 B σ) (hk : A75 σ σ') : R7 B σ' := h.k (funext fun j => hk _ _ (by unfold T75; omega))
theorem R7.pu {B : Pg} {k v : Nat} {σ : Sg} (h : R7 B σ) : R7 (pu B k v) (up2 σ 77 k (nI v)) := fun j hj => by
  by_cases e : j = k
  · subst e; rw [up2_same, pu_s]
  · rw [up2_slot _ _ e, pu_n _ _ e]; exact h j hj
theorem m_isRead {B : Pg} {v : Nat} {σ : Sg} (h : R7 B σ) (hW : WFs B) (hv : v < 2 ^ 30) : f_X10_isReadCell (nI v) σ = some (if gOf B v = 0 then 0 else 1) := by
  obtain ⟨w1, w2, w3, w4, w5, w6, -⟩ := hW
  have key : Ok (f_X10_isReadCell (nI v) σ) (fun y => y = if gOf B v = 0 then 0 else 1) := by
    unfold f_X10_isReadCell
    refine ok_bind (Q := fun e => (e.1 = 1 ∧ ∃ j, j < B 38 ∧ B j = v) ∨ (e.1 = 0 ∧ ∀ j, j < B 38 → B j ≠ v)) ?_ (fun e7 h7 => ?_)
    · refine wh_0 (P := fun k (e : Int32 × Int32) => e.2 = nI k ∧ ((e.1 = 1 ∧ ∃ j, j < k ∧ B j = v) ∨ (e.1 = 0 ∧ ∀ j, j < k → B j ≠ v))) (B 38) (by omega) ⟨rfl, Or.inr ⟨rfl, fun j hj => by omega⟩⟩ ?_
      rintro k ⟨f, i⟩ hk ⟨e1, e2⟩
      dsimp at e1 e2
      subst e1
      unfold b_X10_isReadCell_4
      dsimp +instances only
      rw [c38, h 38 (by omega)]
      by_cases hlt : k < B 38
      · left
        have hb := (w5 k hlt).1.1
        refine ⟨hlt, ok_f (nnle hlt (by omega)) ?_⟩
        refine ok_bind (Q := fun j3 => (j3 = 1 ∧ ∃ j, j < k + 1 ∧ B j = v) ∨ (j3 = 0 ∧ ∀ j, j < k + 1 → B j ≠ v)) ?_ (fun j3 h3 => ok_some ⟨_, rfl, nI_1 _, h3⟩)
        rcases e2 with ⟨rfl, j, hj, ej⟩ | ⟨rfl, hj⟩
        · exact ok_f z10 (ok_some (Or.inl ⟨rfl, j, by omega, ej⟩))
        · refine ok_t rfl (ok_in (vp_in_nI (by omega) (by omega)) ?_)
          rw [nI_clamp (by omega), h k (by omega)]
          by_cases c : B k = v
          · exact ok_t (by rw [c]) (ok_some (Or.inl ⟨rfl, k, by omega, c⟩))
          · refine ok_f (fun q => c ((nI_eq (by omega) (by omega)).mp q)) (ok_some (Or.inr ⟨rfl, fun j hj' => ?_⟩))
            by_cases e : j = k
            · rw [e]; exact c
            · exact hj j (by omega)
      · right
        obtain rfl : k = B 38 := by omega
        exact ok_t (nle (Nat.le_refl _) (by omega)) (ok_some ⟨_, rfl, e2⟩)
    · refine ok_bind (Q := fun e => (e.1 = 1 ∧ ((∃ j, j < B 38 ∧ B j = v) ∨ ∃ j, j < B 39 ∧ B (14 + j) = v)) ∨ (e.1 = 0 ∧ (∀ j, j < B 38 → B j ≠ v) ∧ ∀ j, j < B 39 → B (14 + j) ≠ v)) ?_ (fun e he => ?_)
      · refine wh_0 (P := fun k (e : Int32 × Int32) => e.2 = nI k ∧ ((e.1 = 1 ∧ ((∃ j, j < B 38 ∧ B j = v) ∨ ∃ j, j < k ∧ B (14 + j) = v)) ∨ (e.1 = 0 ∧ (∀ j, j < B 38 → B j ≠ v) ∧ ∀ j, j < k → B (14 + j) ≠ v))) (B 39) (by omega) ⟨rfl, ?_⟩ ?_
        · rcases h7 with ⟨q1, q2⟩ | ⟨q1, q2⟩
          · exact Or.inl ⟨q1, Or.inl q2⟩
          · exact Or.inr ⟨q1, q2, fun j hj => by omega⟩
        rintro k ⟨f, i⟩ hk ⟨e1, e2⟩
        dsimp at e1 e2
        subst e1
        unfold b_X10_isReadCell_43
        dsimp +instances only
        rw [c39, h 39 (by omega)]
        by_cases hlt : k < B 39
        · left
          have hb := (w6 k hlt).1
          refine ⟨hlt, ok_f (nnle hlt (by omega)) ?_⟩
          refine ok_bind (Q := fun j3 => (j3 = 1 ∧ ((∃ j, j < B 38 ∧ B j = v) ∨ ∃ j, j < k + 1 ∧ B (14 + j) = v)) ∨ (j3 = 0 ∧ (∀ j, j < B 38 → B j ≠ v) ∧ ∀ j, j < k + 1 → B (14 + j) ≠ v)) ?_ (fun j3 h3 => ok_some ⟨_, rfl, nI_1 _, h3⟩)
          rcases e2 with ⟨rfl, q⟩ | ⟨rfl, q, hj⟩
          · refine ok_f z10 (ok_some (Or.inl ⟨rfl, ?_⟩))
            rcases q with q | ⟨j, hj, ej⟩
            · exact Or.inl q
            · exact Or.inr ⟨j, by omega, ej⟩
          · rw [show (14 : Int32) = nI 14 from rfl, nI_add]
            refine ok_t rfl (ok_in (vp_in_nI (by omega) (by omega)) ?_)
            rw [nI_clamp (by omega), h (14 + k) (by omega)]
            by_cases c : B (14 + k) = v
            · exact ok_t (by rw [c]) (ok_some (Or.inl ⟨rfl, Or.inr ⟨k, by omega, c⟩⟩))
            · refine ok_f (fun z => c ((nI_eq (by omega) (by omega)).mp z)) (ok_some (Or.inr ⟨rfl, q, fun j hj' => ?_⟩))
              by_cases e : j = k
              · rw [e]; exact c
              · exact hj j (by omega)
        · right
          obtain rfl : k = B 39 := by omega
          exact ok_t (nle (Nat.le_refl _) (by omega)) (ok_some ⟨_, rfl, e2⟩)
      · have hg := gOf_cases B v
        rcases he with ⟨q1, q2⟩ | ⟨q1, q2, q3⟩
        · have hne : gOf B v ≠ 0 := fun z => by
            obtain ⟨z1, z2⟩ := gOf_free z
            rcases q2 with ⟨j, hj, ej⟩ | ⟨j, hj, ej⟩
            · exact z2 j hj ej
            · exact z1 j hj ej
          rw [q1, if_pos (by decide), if_neg hne]
          exact ok_some rfl
        · rw [q1, if_pos (by decide), if_pos (gOf_none q3 q2)]
          exact ok_some rfl
  obtain ⟨y, e, hy⟩ := key
  rw [e, hy]
theorem m_cellHere {b : Nat → Nat} {n : Nat} {B : Pg} {t : Tk} {σ : Sg} (h : TM b n σ) (hM : ML (.inr t) σ) (hR : R7 B σ) (hW : WFs B) (ht : t.1 ≤ 3) (he : t.2.2.1 ≤ n) (hv : t.2.2.2 ≤ 99) : Ok (f_X10_cellHere σ) (fun y => NM b n (cel B t) y ∧ A75 σ y.2) := by
  unfold f_X10_cellHere cel
  have k2 : σ 75 12 = (2 : Int32) ↔ t.1 = 2 := m_tk hM ht (k := 2) (by omega)
  have f3 := m_fails (c := 3) (by omega) (by omega) hM.1 hM.2.2.1
  have f4 := m_fails (c := 4) (by omega) (by omega) hM.1 hM.2.2.1
  have f3' : ML (.inl (3, t.2.1)) (f_X10_fails 3 σ) := f3.1
  have f4' : ML (.inl (4, t.2.1)) (f_X10_fails 4 σ) := f4.1
  have hnum := m_number (lo := 0) (hi := 97) h hM ht he hv (by omega) (by omega)
  rw [if_pos hM.1]
  by_cases z : t.1 = 2
  · have z7 := hM.2.2.2.2 z
    rw [if_pos (k2.mpr z), if_pos z]
    show Ok (app (if (σ 75 13 - σ 75 13 / (10 : Int32) * (10 : Int32)) < (8 : Int32) then σ else f_X10_fails 3 σ) _) _
    rw [z7, show (10 : Int32) = nI 10 from rfl, imod (by omega) (by omega)]
    by_cases g : t.2.2.2 % 10 < 8
    · rw [if_pos (show nI (t.2.2.2 % 10) < (8 : Int32) from nI_lt (b := 8) g (by omega)), if_pos g]
      refine ok_app ?_
      rw [if_pos hM.1, if_pos (k2.mpr z), z7, m_isRead hR hW (by omega), Option.bind_some]
      by_cases g0 : gOf B t.2.2.2 = 0
      · rw [if_pos g0, if_pos g0, if_pos rfl, Option.bind_some]
        refine ok_bind hnum (fun y hy => ok_some ?_)
        unfold num at hy
        rw [if_pos z, if_pos (by omega)] at hy
        exact hy
      · rw [if_neg g0, if_neg g0, if_neg z10, Option.bind_some, m_number_no f4', Option.bind_some]
        exact ok_some ⟨f4', f4.2⟩
    · rw [if_neg (show ¬ nI (t.2.2.2 % 10) < (8 : Int32) from nI_nlt (b := 8) (by omega) (by omega)), if_neg g]
      refine ok_app ?_
      rw [if_neg f3'.ne, Option.bind_some, m_number_no f3', Option.bind_some]
      exact ok_some ⟨f3', f3.2⟩
  · rw [if_neg (fun q => z (k2.mp q)), if_neg z]
    simp only [app]
    rw [if_pos hM.1, if_neg (fun q => z (k2.mp q)), Option.bind_some]
    refine ok_bind hnum (fun y hy => ok_some ?_)
    unfold num at hy
    rw [if_neg z] at hy
    exact hy
/-- the greatest hedgehog of the suits, and 1 -/
def hiS (B : Pg) : Nat → Nat
  | 0 => 0
  | i + 1 => max (hiS B i) (B (26 + i) + 1)
theorem hiS_s (B : Pg) (i : Nat) : hiS B (i + 1) = max (hiS B i) (B (26 + i) + 1) := rfl
theorem hiS_congr {B C : Pg} : ∀ i, (∀ j, j < i → B (26 + j) = C (26 + j)) → hiS B i = hiS C i := by
  intro i
  induction i with
  | zero => intro _; rfl
  | succ i ih =>
    intro h
    unfold hiS
    rw [ih (fun j hj => h j (by omega)), h i (by omega)]
theorem hiS_le {B : Pg} {m : Nat} : ∀ i, hiS B i ≤ m ↔ ∀ j, j < i → B (26 + j) < m := by
  intro i
  induction i with
  | zero => exact ⟨fun _ j hj => by omega, fun _ => Nat.zero_le _⟩
  | succ i ih =>
    unfold hiS
    constructor
    · intro h j hj
      by_cases e : j = i
      · rw [e]; omega
      · exact (ih.mp (by omega)) j (by omega)
    · intro h
      have h1 := ih.mpr (fun j hj => h j (by omega))
      have h2 := h i (by omega)
      omega
/-- the reference's draft -/
def RD (B : Pg) (σ : Sg) : Prop := R7 B σ ∧ σ 75 3 = nI (B 41) ∧ σ 75 4 = nI (hiS B (B 40)) - 1
theorem RD.a {B : Pg} {σ σ' : Sg} (h : RD B σ) (hk : A75 σ σ') : RD B σ' := ⟨h.1.a hk, by rw [hk _ _ (by unfold T75; omega)]; exact h.2.1, by rw [hk _ _ (by unfold T75; omega)]; exact h.2.2⟩
def T7 (c j : Nat) : Prop := (c = 75 ∧ (j = 3 ∨ j = 4 ∨ (8 ≤ j ∧ j ≤ 13))) ∨ c = 77
def A7 (σ σ' : Sg) : Prop := Agr T7 σ σ'
theorem A7.rf {σ : Sg} : A7 σ σ := Agr.rf
theorem A7.tr {σ σ1 σ2 : Sg} (h1 : A7 σ σ1) (h2 : A7 σ1 σ2) : A7 σ σ2 := Agr.tr h1 h2
theorem A7.a {σ σ1 σ2 : Sg} (h1 : A7 σ σ1) (h2 : A75 σ1 σ2) : A7 σ σ2 := Agr.tr h1 (Agr.mono h2 (fun c j z => by unfold T75 at z; unfold T7; omega))
theorem A7.u {σ σ1 : Sg} (h : A7 σ σ1) {i : Nat} {x : Int32} : A7 σ (up2 σ1 77 i x) := Agr.up h (Or.inr rfl)
theorem A7.v {σ σ1 : Sg} (h : A7 σ σ1) {i : Nat} {x : Int32} (hi : i = 3 ∨ i = 4) : A7 σ (up2 σ1 75 i x) := Agr.up h (by unfold T7; omega)
theorem TM.g {b : Nat → Nat} {n : Nat} {σ σ1 : Sg} (h : TM b n σ) (hf : A7 σ σ1) : TM b n σ1 := ⟨h.1, by rw [hf 75 6 (by unfold T7; omega)]; exact h.2.1, fun i hi => by rw [hf 78 i (by unfold T7; omega)]; exact h.2.2 i hi⟩
/-- behind the numbers of a line -/
def MW (b : Nat → Nat) (n : Nat) : Ft ⊕ (Nat × Pg) → Sg → Prop
  | .inl q, σ => ML (.inl q) σ
  | .inr p, σ => ML (lx b n p.1) σ ∧ RD p.2 σ
def mrPeg (b : Nat → Nat) (n : Nat) (B : Pg) (t : Tk) : Ft ⊕ (Nat × Pg) := eb (cel B t) fun t1 => eb (eb (lx b n t1.2.2.1) (num 0 3)) fun t2 => .inr (t2.2.2.1, pPeg B t1.2.2.2 t2.2.2.2)
def mrSlug (B : Pg) (t : Tk) : Ft ⊕ (Nat × Pg) := eb (cel B t) fun t1 => .inr (t1.2.2.1, pSlug B t1.2.2.2)
def mrSuit (b : Nat → Nat) (n : Nat) (B : Pg) (t : Tk) : Ft ⊕ (Nat × Pg) := eb (num 0 3 t) fun t1 => eb (eb (lx b n t1.2.2.1) (num 0 7)) fun t2 => .inr (t2.2.2.1, pSuit B t1.2.2.2 t2.2.2.2)
def mrHog (k : Nat) (B : Pg) (t : Tk) : Ft ⊕ (Nat × Pg) := eb (num 1 9 t) fun t1 => .inr (t1.2.2.1, pHh B k t1.2.2.2)
theorem hiS_pPeg {B : Pg} {c k : Nat} (hW : WFs B) (h7 : B 38 < 7) : hiS (pPeg B c k) (pPeg B c k 40) = hiS B (B 40) ∧ pPeg B c k 41 = B 41 := by
  have w3 := hW.2.2.1
  have e : ∀ j, 14 ≤ j → j ≠ 38 → pPeg B c k j = B j := fun j h1 h2 => by unfold pPeg; rw [pu_n _ _ h2, pu_n _ _ (by omega), pu_n _ _ (by omega)]
  rw [e 40 (by omega) (by omega)]
  exact ⟨hiS_congr _ (fun j hj => e _ (by omega) (by omega)), e _ (by omega) (by omega)⟩
theorem m_morePeg {b : Nat → Nat} {n : Nat} {B : Pg} {t : Tk} {σ : Sg} (h : TM b n σ) (hM : ML (.inr t) σ) (hR : RD B σ) (hW : WFs B) (ht : t.1 ≤ 3) (he : t.2.2.1 ≤ n) (hv : t.2.2.2 ≤ 99) (hf : B 38 < 7) : Ok (f_X10_readMore 4 σ) (fun y => MW b n (mrPeg b n B t) y ∧ A7 σ y) := by
  unfold f_X10_readMore mrPeg
  refine ok_t (by decide) (ok_t rfl (ok_app ?_))
  rw [c38, hR.1 38 (by omega)]
  refine ok_bind (m_cellHere h hM hR.1 hW ht he hv) (fun y4 hy4 => ?_)
  obtain ⟨u1, u2⟩ := hy4
  refine ok_in (vp_in_nI (by omega) (by omega)) (ok_app ?_)
  rw [nI_clamp (by omega), show (7 : Int32) = nI 7 from rfl, nI_add]
  have hA : A7 σ y4.2 := A7.rf.a u2
  cases hq : cel B t with
  | inl q =>
    rw [hq] at u1
    have u1' : ML (.inl q) (up2 y4.2 77 (B 38) y4.1) := ML.u u1
    rw [m_number_no u1', Option.bind_some]
    refine ok_in (vp_in_nI (by omega) (by omega)) (ok_app (ok_some ⟨?_, ((hA.u).u).u⟩))
    exact (u1'.u).u
  | inr t1 =>
    rw [hq] at u1
    obtain ⟨q1, q2, q3, q4⟩ := cel_in hq
    subst q1
    rw [eb_r, u1.2]
    have hM5 : ML (lx b n t1.2.2.1) (up2 y4.2 77 (B 38) (nI t1.2.2.2)) := u1.1.u
    have hA5 : A7 σ (up2 y4.2 77 (B 38) (nI t1.2.2.2)) := hA.u
    have hR5 : R7 (pu B (B 38) t1.2.2.2) (up2 y4.2 77 (B 38) (nI t1.2.2.2)) := (hR.a u2).1.pu
    have d3 : (up2 y4.2 77 (B 38) (nI t1.2.2.2)) 75 3 = nI (B 41) := by rw [up2_cell _ _ _ (by decide)]; exact (hR.a u2).2.1
    have d4 : (up2 y4.2 77 (B 38) (nI t1.2.2.2)) 75 4 = nI (hiS B (B 40)) - 1 := by rw [up2_cell _ _ _ (by decide)]; exact (hR.a u2).2.2
    generalize up2 y4.2 77 (B 38) (nI t1.2.2.2) = w at hM5 hA5 hR5 d3 d4
    cases hl : lx b n t1.2.2.1 with
    | inl q =>
      rw [hl] at hM5
      rw [m_number_no hM5, Option.bind_some]
      refine ok_in (vp_in_nI (by omega) (by omega)) (ok_app (ok_some ⟨?_, (hA5.u).u⟩))
      exact (hM5.u).u
    | inr t2 =>
      rw [hl] at hM5
      obtain ⟨l1, l2, l3, l4, l5, l6⟩ := lx_ok he hl
      refine ok_bind (m_number (lo := 0) (hi := 3) (h.g hA5) hM5 l4 l3 l6 (by omega) (by omega)) (fun y7 hy7 => ?_)
      obtain ⟨v1, v2⟩ := hy7
      refine ok_in (vp_in_nI (by omega) (by omega)) (ok_app (ok_some ⟨?_, ((hA5.a v2).u).u⟩))
      rw [eb_r]
      cases hq2 : num 0 3 t2 with
      | inl q =>
        rw [hq2] at v1
        exact (ML.u (show ML (.inl q) y7.2 from v1)).u
      | inr t3 =>
        rw [hq2] at v1
        obtain ⟨r1, r2, r3, r4⟩ := num_in hq2
        subst r1
        rw [eb_r]
        obtain ⟨x1, x2⟩ := hiS_pPeg (c := t1.2.2.2) (k := t3.2.2.2) hW hf
        refine ⟨(v1.1.u).u, ?_, ?_, ?_⟩
        · rw [v1.2, nI_clamp (by omega)]
          have hh := ((hR5.a v2).pu (k := 7 + B 38) (v := t3.2.2.2))
          have e38 : (up2 y7.2 77 (7 + B 38) (nI t3.2.2.2)) 77 38 = nI (B 38) := by
            rw [hh 38 (by omega), pu_n _ _ (by omega), pu_n _ _ (by omega)]
          rw [e38, nI_1]
          exact hh.pu
        · dsimp only
          rw [up2_cell _ _ _ (by decide), up2_cell _ _ _ (by decide), v2 _ _ (by unfold T75; omega), d3, x2]
        · dsimp only
          rw [up2_cell _ _ _ (by decide), up2_cell _ _ _ (by decide), v2 _ _ (by unfold T75; omega), d4, x1]
theorem m_moreSlug {b : Nat → Nat} {n : Nat} {B : Pg} {t : Tk} {σ : Sg} (h : TM b n σ) (hM : ML (.inr t) σ) (hR : RD B σ) (hW : WFs B) (ht : t.1 ≤ 3) (he : t.2.2.1 ≤ n) (hv : t.2.2.2 ≤ 99) (hf : B 39 < 4) : Ok (f_X10_readMore 5 σ) (fun y => MW b n (mrSlug B t) y ∧ A7 σ y) := by
  have w3 := hW.2.2.1
  unfold f_X10_readMore mrSlug
  refine ok_t (by decide) (ok_f (by decide) (ok_t rfl ?_))
  rw [c39, hR.1 39 (by omega)]
  refine ok_bind (m_cellHere h hM hR.1 hW ht he hv) (fun y4 hy4 => ?_)
  obtain ⟨u1, u2⟩ := hy4
  rw [show (14 : Int32) = nI 14 from rfl, nI_add]
  refine ok_app (ok_in (vp_in_nI (by omega) (by omega)) (ok_app ?_))
  rw [nI_clamp (by omega)]
  have hA : A7 σ y4.2 := A7.rf.a u2
  refine ok_some ⟨?_, (hA.u).u⟩
  cases hq : cel B t with
  | inl q =>
    rw [hq] at u1
    exact (ML.u (show ML (.inl q) y4.2 from u1)).u
  | inr t1 =>
    rw [hq] at u1
    obtain ⟨q1, q2, q3, q4⟩ := cel_in hq
    subst q1
    rw [eb_r]
    have hR4 := hR.a u2
    have e : ∀ j, j ≠ 39 → j ≠ 14 + B 39 → pSlug B t1.2.2.2 j = B j := fun j h1 h2 => by unfold pSlug; rw [pu_n _ _ h1, pu_n _ _ h2]
    refine ⟨(u1.1.u).u, ?_, ?_, ?_⟩
    · rw [u1.2]
      have hh := hR4.1.pu (k := 14 + B 39) (v := t1.2.2.2)
      have e39 : (up2 y4.2 77 (14 + B 39) (nI t1.2.2.2)) 77 39 = nI (B 39) := by rw [hh 39 (by omega), pu_n _ _ (by omega)]
      rw [e39, nI_1]
      exact hh.pu
    · dsimp only
      rw [up2_cell _ _ _ (by decide), up2_cell _ _ _ (by decide), hR4.2.1, e _ (by omega) (by omega)]
    · dsimp only
      rw [up2_cell _ _ _ (by decide), up2_cell _ _ _ (by decide), hR4.2.2, e 40 (by omega) (by omega), hiS_congr (C := pSlug B t1.2.2.2) _ (fun j hj => (e _ (by omega) (by omega)).symm)]
theorem m_moreHog {b : Nat → Nat} {n k : Nat} {B : Pg} {t : Tk} {σ : Sg} (h : TM b n σ) (hM : ML (.inr t) σ) (hR : RD B σ) (hW : WFs B) (ht : t.1 ≤ 3) (he : t.2.2.1 ≤ n) (hv : t.2.2.2 ≤ 99) (hf : B 41 < 4) (hk : k < 4) : Ok (f_X10_readMore (nI k) σ) (fun y => MW b n (mrHog k B t) y ∧ A7 σ y) := by
  have w3 := hW.2.2.1
  unfold f_X10_readMore mrHog
  refine ok_f (show ¬ (3 : Int32) < nI k from nI_nlt (a := 3) (by omega) (by omega)) ?_
  rw [hR.2.1, show (18 : Int32) = nI 18 from rfl, nI_add]
  refine ok_in (vp_in_nI (by omega) (by omega)) (ok_app ?_)
  rw [nI_clamp (by omega)]
  have hA : A7 σ (up2 σ 77 (18 + B 41) (nI k)) := A7.rf.u
  have hM2 : ML (.inr t) (up2 σ 77 (18 + B 41) (nI k)) := hM.u
  have hR2 : R7 (pu B (18 + B 41) k) (up2 σ 77 (18 + B 41) (nI k)) := hR.1.pu
  have d3 : (up2 σ 77 (18 + B 41) (nI k)) 75 3 = nI (B 41) := by rw [up2_cell _ _ _ (by decide)]; exact hR.2.1
  have d4 : (up2 σ 77 (18 + B 41) (nI k)) 75 4 = nI (hiS B (B 40)) - 1 := by rw [up2_cell _ _ _ (by decide)]; exact hR.2.2
  generalize up2 σ 77 (18 + B 41) (nI k) = w at hA hM2 hR2 d3 d4
  refine ok_bind (m_number (lo := 1) (hi := 9) (h.g hA) hM2 ht he hv (by omega) (by omega)) (fun y7 hy7 => ?_)
  obtain ⟨v1, v2⟩ := hy7
  rw [d3, show (22 : Int32) = nI 22 from rfl, nI_add]
  refine ok_in (vp_in_nI (by omega) (by omega)) (ok_app ?_)
  rw [nI_clamp (by omega)]
  refine ok_some ⟨?_, ((hA.a v2).u).v (by omega)⟩
  have ku : ∀ {x : Ft ⊕ Tk} {s : Sg} {v : Int32}, ML x s → ML x (up2 s 75 3 v) := fun hx => hx.k (fun j h1 h2 => by rw [up2_slot _ _ (by omega)])
  cases hq : num 1 9 t with
  | inl q =>
    rw [hq] at v1
    exact ku (ML.u (show ML (.inl q) y7.2 from v1))
  | inr t1 =>
    rw [hq] at v1
    obtain ⟨r1, r2, r3, r4⟩ := num_in hq
    subst r1
    rw [eb_r]
    have e : ∀ j, j ≠ 41 → j ≠ 18 + B 41 → j ≠ 22 + B 41 → pHh B k t1.2.2.2 j = B j := fun j a1 a2 a3 => by unfold pHh; rw [pu_n _ _ a1, pu_n _ _ a3, pu_n _ _ a2]
    refine ⟨ku (ML.u v1.1), ?_, ?_, ?_⟩
    · rw [v1.2]
      have hh := ((hR2.a v2).pu (k := 22 + B 41) (v := t1.2.2.2))
      intro j hj
      rw [up2_cell _ _ _ (by decide), hh j hj]
      unfold pHh
      dsimp only
      rw [pu_n _ _ (show j ≠ 41 by omega)]
    · dsimp only
      rw [up2_same, up2_cell _ _ _ (by decide), v2 _ _ (by unfold T75; omega), d3, nI_1]
      unfold pHh
      rw [pu_s]
    · dsimp only
      rw [up2_slot _ _ (by decide), up2_cell _ _ _ (by decide), v2 _ _ (by unfold T75; omega), d4, e 40 (by omega) (by omega) (by omega), hiS_congr (C := pHh B k t1.2.2.2) _ (fun j hj => (e _ (by omega) (by omega) (by omega)).symm)]
theorem m_moreSuit {b : Nat → Nat} {n : Nat} {B : Pg} {t : Tk} {σ : Sg} (h : TM b n σ) (hM : ML (.inr t) σ) (hR : RD B σ) (hW : WFs B) (ht : t.1 ≤ 3) (he : t.2.2.1 ≤ n) (hv : t.2.2.2 ≤ 99) (hf : B 40 < 6) : Ok (f_X10_readMore 6 σ) (fun y => MW b n (mrSuit b n B t) y ∧ A7 σ y) := by
  have w8 := hW.2.2.2.2.2.2.2.1
  have hH : hiS B (B 40) ≤ 4 := (hiS_le _).mpr (fun j hj => (w8 j hj).1)
  unfold f_X10_readMore mrSuit
  refine ok_t (by decide) (ok_f (by decide) (ok_f (by decide) (ok_app ?_)))
  rw [c40, hR.1 40 (by omega)]
  refine ok_bind (m_number (lo := 0) (hi := 3) h hM ht he hv (by omega) (by omega)) (fun y4 hy4 => ok_app (ok_app ?_))
  obtain ⟨u1, u2⟩ := hy4
  rw [show (26 : Int32) = nI 26 from rfl, show (32 : Int32) = nI 32 from rfl, nI_add, nI_add]
  refine ok_in (vp_in_nI (by omega) (by omega)) (ok_app ?_)
  rw [nI_clamp (by omega)]
  have hR4 := hR.a u2
  rw [hR4.2.2]
  have ku : ∀ {x : Ft ⊕ Tk} {s : Sg} {v : Int32}, ML x s → ML x (up2 s 75 4 v) := fun hx => hx.k (fun j h1 h2 => by rw [up2_slot _ _ (by omega)])
  have hA : A7 σ y4.2 := A7.rf.a u2
  generalize hJ : (if y4.1 ≤ nI (hiS B (B 40)) - 1 then nI (hiS B (B 40)) - 1 else y4.1) = J
  have hA5 : A7 σ (up2 (up2 y4.2 75 4 J) 77 (26 + B 40) y4.1) := (hA.v (by omega)).u
  cases hq : num 0 3 t with
  | inl q =>
    rw [hq] at u1
    have u1' : ML (.inl q) (up2 (up2 y4.2 75 4 J) 77 (26 + B 40) y4.1) := ML.u (ku (show ML (.inl q) y4.2 from u1))
    rw [m_number_no u1', Option.bind_some]
    refine ok_in (vp_in_nI (by omega) (by omega)) (ok_app (ok_some ⟨?_, (hA5.u).u⟩))
    exact (u1'.u).u
  | inr t1 =>
    rw [hq] at u1
    obtain ⟨q1, q2, q3, q4⟩ := num_in hq
    subst q1
    rw [eb_r]
    rw [u1.2] at hA5 hJ ⊢
    have eJ : J = nI (max (hiS B (B 40)) (t1.2.2.2 + 1)) - 1 := by
      rw [← hJ]
      by_cases g : hiS B (B 40) < t1.2.2.2 + 1
      · rw [if_neg (fun z => (le_pred (by omega) (by omega)).mp z g), show max (hiS B (B 40)) (t1.2.2.2 + 1) = t1.2.2.2 + 1 by omega]
        exact (nI_pred _).symm
      · rw [if_pos ((le_pred (by omega) (by omega)).mpr g), show max (hiS B (B 40)) (t1.2.2.2 + 1) = hiS B (B 40) by omega]
    have hM5 : ML (lx b n t1.2.2.1) (up2 (up2 y4.2 75 4 J) 77 (26 + B 40) (nI t1.2.2.2)) := ML.u (ku u1.1)
    have hR5 : R7 (pu B (26 + B 40) t1.2.2.2) (up2 (up2 y4.2 75 4 J) 77 (26 + B 40) (nI t1.2.2.2)) := (hR4.1.k (by rw [up2_cell _ _ _ (by decide)])).pu
    have d3 : (up2 (up2 y4.2 75 4 J) 77 (26 + B 40) (nI t1.2.2.2)) 75 3 = nI (B 41) := by rw [up2_cell _ _ _ (by decide), up2_slot _ _ (by decide)]; exact hR4.2.1
    have d4 : (up2 (up2 y4.2 75 4 J) 77 (26 + B 40) (nI t1.2.2.2)) 75 4 = J := by rw [up2_cell _ _ _ (by decide), up2_same]
    generalize up2 (up2 y4.2 75 4 J) 77 (26 + B 40) (nI t1.2.2.2) = w at hM5 hA5 hR5 d3 d4
    cases hl : lx b n t1.2.2.1 with
    | inl q =>
      rw [hl] at hM5
      rw [m_number_no hM5, Option.bind_some]
      refine ok_in (vp_in_nI (by omega) (by omega)) (ok_app (ok_some ⟨?_, (hA5.u).u⟩))
      exact (hM5.u).u
    | inr t2 =>
      rw [hl] at hM5
      obtain ⟨l1, l2, l3, l4, l5, l6⟩ := lx_ok he hl
      refine ok_bind (m_number (lo := 0) (hi := 7) (h.g hA5) hM5 l4 l3 l6 (by omega) (by omega)) (fun y7 hy7 => ?_)
      obtain ⟨v1, v2⟩ := hy7
      refine ok_in (vp_in_nI (by omega) (by omega)) (ok_app (ok_some ⟨?_, ((hA5.a v2).u).u⟩))
      rw [eb_r]
      cases hq2 : num 0 7 t2 with
      | inl q =>
        rw [hq2] at v1
        exact (ML.u (show ML (.inl q) y7.2 from v1)).u
      | inr t3 =>
        rw [hq2] at v1
        obtain ⟨r1, r2, r3, r4⟩ := num_in hq2
        subst r1
        rw [eb_r]
        have e : ∀ j, j ≠ 40 → j ≠ 26 + B 40 → j ≠ 32 + B 40 → pSuit B t1.2.2.2 t3.2.2.2 j = B j := fun j a1 a2 a3 => by unfold pSuit; rw [pu_n _ _ a1, pu_n _ _ a3, pu_n _ _ a2]
        refine ⟨(v1.1.u).u, ?_, ?_, ?_⟩
        · rw [v1.2, nI_clamp (by omega)]
          have hh := ((hR5.a v2).pu (k := 32 + B 40) (v := t3.2.2.2))
          have e40 : (up2 y7.2 77 (32 + B 40) (nI t3.2.2.2)) 77 40 = nI (B 40) := by
            rw [hh 40 (by omega), pu_n _ _ (by omega), pu_n _ _ (by omega)]
          rw [e40, nI_1]
          exact hh.pu
        · dsimp only
          rw [up2_cell _ _ _ (by decide), up2_cell _ _ _ (by decide), v2 _ _ (by unfold T75; omega), d3, e _ (by omega) (by omega) (by omega)]
        · dsimp only
          rw [up2_cell _ _ _ (by decide), up2_cell _ _ _ (by decide), v2 _ _ (by unfold T75; omega), d4, eJ]
          have e40 : pSuit B t1.2.2.2 t3.2.2.2 40 = B 40 + 1 := by unfold pSuit; rw [pu_s]
          have e26 : pSuit B t1.2.2.2 t3.2.2.2 (26 + B 40) = t1.2.2.2 := by unfold pSuit; rw [pu_n _ _ (by omega), pu_n _ _ (by omega), pu_s]
          rw [e40, hiS_s, e26, ← hiS_congr (B := B) (B 40) (fun j hj => (e _ (by omega) (by omega) (by omega)).symm)]
