-- where something lies: the first place below n whose f is c, else n
def fndF (f : Nat → Nat) (c : Nat) : Nat → Nat → Nat
  | 0, i => i
  | d + 1, i => if f i = c then i else fndF f c d (i + 1)
def fnd (n : Nat) (f : Nat → Nat) (c : Nat) : Nat := fndF f c n 0
theorem fndF_spec (f : Nat → Nat) (c : Nat) : ∀ d i, (fndF f c d i < i + d ∧ i ≤ fndF f c d i ∧ f (fndF f c d i) = c ∧ ∀ j, i ≤ j → j < fndF f c d i → f j ≠ c) ∨ (fndF f c d i = i + d ∧ ∀ j, i ≤ j → j < i + d → f j ≠ c) := by
  intro d
  induction d with
  | zero => intro i; exact Or.inr ⟨rfl, fun j h1 h2 => by omega⟩
  | succ d ih =>
    intro i
    unfold fndF
    by_cases h : f i = c
    · rw [if_pos h]
      exact Or.inl ⟨by omega, Nat.le_refl _, h, fun j h1 h2 => by omega⟩
    · rw [if_neg h]
      rcases ih (i + 1) with ⟨h1, h2, h3, h4⟩ | ⟨h1, h2⟩
      · refine Or.inl ⟨by omega, by omega, h3, fun j h5 h6 => ?_⟩
        by_cases e : j = i
        · rw [e]; exact h
        · exact h4 j (by omega) h6
      · refine Or.inr ⟨by omega, fun j h5 h6 => ?_⟩
        by_cases e : j = i
        · rw [e]; exact h
        · exact h2 j (by omega) (by omega)
theorem fnd_spec (n : Nat) (f : Nat → Nat) (c : Nat) : (fnd n f c < n ∧ f (fnd n f c) = c ∧ ∀ j, j < fnd n f c → f j ≠ c) ∨ (fnd n f c = n ∧ ∀ j, j < n → f j ≠ c) := by
  rcases fndF_spec f c n 0 with ⟨h1, h2, h3, h4⟩ | ⟨h1, h2⟩
  · exact Or.inl ⟨by unfold fnd; omega, h3, fun j hj => h4 j (Nat.zero_le _) hj⟩
  · exact Or.inr ⟨by unfold fnd; omega, fun j hj => h2 j (Nat.zero_le _) (by omega)⟩
theorem fnd_at {n : Nat} {f : Nat → Nat} {c i : Nat} (hi : i < n) (h : f i = c) (hf : ∀ j, j < i → f j ≠ c) : fnd n f c = i := by
  rcases fnd_spec n f c with ⟨h1, h2, h3⟩ | ⟨h1, h2⟩
  · rcases Nat.lt_trichotomy (fnd n f c) i with h4 | h4 | h4
    · exact absurd h2 (hf _ h4)
    · exact h4
    · exact absurd h (h3 i h4)
  · exact absurd h (h2 i hi)
theorem fnd_no {n : Nat} {f : Nat → Nat} {c : Nat} (h : ∀ j, j < n → f j ≠ c) : fnd n f c = n := by
  rcases fnd_spec n f c with ⟨h1, h2, h3⟩ | ⟨h1, h2⟩
  · exact absurd h2 (h _ h1)
  · exact h1
/-- a page: 0.. cells of pegs, 7.. their rags, 14.. slugs, 18.. kinds, 22.. speeds, 26.. whose suit, 32.. its column, 38 pegs, 39 slugs, 40 suits, 41 hedgehogs -/
abbrev Pg : Type := Nat → Nat
def gOf (A : Pg) (c : Nat) : Nat := if fnd (A 39) (fun i => A (14 + i)) c < A 39 then 1 else if fnd (A 38) A c < A 38 then fnd (A 38) A c + 2 else 0
theorem gOf_lt {A : Pg} {c : Nat} : gOf A c < A 38 + 2 := by
  unfold gOf
  split
  · omega
  · split <;> omega
def RM (p : Nat) (A : Pg) (σ : Sg) : Prop := ∀ k, k < 41 → σ 76 (p + k) = nI (A k)
/-- the reference's own numbers about a run may change, nothing else -/
def FrM (σ σ' : Sg) : Prop := (∀ c, c ≠ 75 → c ≠ 81 → σ' c = σ c) ∧ ∀ j, j ≠ 16 → j ≠ 17 → j ≠ 18 → j ≠ 19 → σ' 75 j = σ 75 j
theorem FrM.rf {σ : Sg} : FrM σ σ := ⟨fun _ _ _ => rfl, fun _ _ _ _ _ => rfl⟩
theorem FrM.tr {σ σ1 σ2 : Sg} (h1 : FrM σ σ1) (h2 : FrM σ1 σ2) : FrM σ σ2 := ⟨fun c a b => (h2.1 c a b).trans (h1.1 c a b), fun j a b c d => (h2.2 j a b c d).trans (h1.2 j a b c d)⟩
theorem FrM.up {σ σ1 : Sg} (h : FrM σ σ1) {i : Nat} {x : Int32} (hi : i = 16 ∨ i = 17 ∨ i = 18 ∨ i = 19) : FrM σ (up2 σ1 75 i x) := ⟨fun c a b => by
  rw [up2_cell _ _ _ a]
  exact h.1 c a b, fun j a b c d => by
  rw [up2_slot _ _ (by omega)]
  exact h.2 j a b c d⟩
theorem FrM.col {σ σ1 : Sg} (h : FrM σ σ1) {i : Nat} {x : Int32} : FrM σ (up2 σ1 81 i x) := ⟨fun c a b => by
  rw [up2_cell _ _ _ b]
  exact h.1 c a b, fun j a b c d => by
  rw [up2_cell _ _ _ (by decide)]
  exact h.2 j a b c d⟩
theorem RM.keep {p : Nat} {A : Pg} {σ σ' : Sg} (h : RM p A σ) (hf : σ' 76 = σ 76) : RM p A σ' := fun k hk => by rw [hf]; exact h k hk
theorem RM.fr {p : Nat} {A : Pg} {σ σ' : Sg} (h : RM p A σ) (hf : FrM σ σ') : RM p A σ' := h.keep (hf.1 76 (by decide) (by decide))
theorem nI_lit (n : Nat) : (OfNat.ofNat n : Int32) = nI n := rfl
theorem m_pegOn {p c : Nat} {A : Pg} {σ : Sg} (hM : RM p A σ) (hp : p + 41 ≤ 205) (hn : A 38 ≤ 7) (hb : ∀ i, i < A 38 → A i < 2 ^ 31) (hc : c < 2 ^ 31) : f_X10_pegOn (nI p) (nI c) σ = some (if fnd (A 38) A c < A 38 then nI (fnd (A 38) A c) else -4) := by
  have key : Ok (f_X10_pegOn (nI p) (nI c) σ) (fun y => y = if fnd (A 38) A c < A 38 then nI (fnd (A 38) A c) else -4) := by
    unfold f_X10_pegOn
    have hloop : Ok (wh (b_X10_pegOn_2 (nI p) (nI c) σ) 4096 0) (fun r => (∃ e, r = .inl e ∧ fnd (A 38) A c = A 38) ∨ (r = .inr (nI (fnd (A 38) A c)) ∧ fnd (A 38) A c < A 38)) := by
      refine wh_0 (P := fun k s => s = nI k ∧ ∀ j, j < k → A j ≠ c) (A 38) (by omega) ⟨rfl, fun j hj => by omega⟩ ?_
      rintro k s hk ⟨rfl, hj⟩
      have e1 : nI p + (38 : Int32) = nI (p + 38) := nI_add p 38
      have e2 : nI p + nI k = nI (p + k) := nI_add p k
      have hbody : b_X10_pegOn_2 (nI p) (nI c) σ (nI k) = if nI (A 38) ≤ nI k then some (.inr (.inl (nI k))) else if σ 76 (p + k) = nI c then some (.inr (.inr (nI k))) else some (.inl (nI k + 1)) := by
        unfold b_X10_pegOn_2
        rw [e1, e2, if_pos (inR_of (vp_in_nI (by omega) (by omega))), nI_clamp (by omega), hM 38 (by omega), if_pos (inR_of (vp_in_nI (n := p + k) (by omega) (by omega))), nI_clamp (by omega)]
      by_cases hlt : k < A 38
      · rw [hbody, if_neg (nnle hlt (by omega)), hM k (by omega)]
        by_cases he : A k = c
        · right
          rw [if_pos (by rw [he])]
          have hf := fnd_at hlt he hj
          exact ok_some ⟨_, rfl, Or.inr ⟨by rw [hf], by rw [hf]; exact hlt⟩⟩
        · left
          rw [if_neg (nne he (hb k hlt) hc)]
          refine ⟨hlt, ok_some (in_l ⟨nI_1 k, fun j h1 => ?_⟩)⟩
          by_cases e : j = k
          · rw [e]; exact he
          · exact hj j (by omega)
      · right
        obtain rfl : k = A 38 := by omega
        rw [hbody, if_pos (nle (Nat.le_refl _) (by omega))]
        exact ok_some ⟨_, rfl, Or.inl ⟨_, rfl, fnd_no hj⟩⟩
    refine ok_bind hloop (fun r h => ?_)
    rcases h with ⟨e, rfl, h⟩ | ⟨rfl, h⟩
    · refine ok_some ?_
      rw [if_neg (by omega)]
    · refine ok_some ?_
      rw [if_pos h]
  obtain ⟨y, e, rfl⟩ := key
  exact e
theorem m_slugOn {p c : Nat} {A : Pg} {σ : Sg} (hM : RM p A σ) (hp : p + 41 ≤ 205) (hn : A 39 ≤ 4) (hb : ∀ i, i < A 39 → A (14 + i) < 2 ^ 31) (hc : c < 2 ^ 31) : f_X10_slugOn (nI p) (nI c) σ = some (if fnd (A 39) (fun i => A (14 + i)) c < A 39 then nI (fnd (A 39) (fun i => A (14 + i)) c) else -4) := by
  have key : Ok (f_X10_slugOn (nI p) (nI c) σ) (fun y => y = if fnd (A 39) (fun i => A (14 + i)) c < A 39 then nI (fnd (A 39) (fun i => A (14 + i)) c) else -4) := by
    unfold f_X10_slugOn
    have hloop : Ok (wh (b_X10_slugOn_2 (nI p) (nI c) σ) 4096 0) (fun r => (∃ e, r = .inl e ∧ fnd (A 39) (fun i => A (14 + i)) c = A 39) ∨ (r = .inr (nI (fnd (A 39) (fun i => A (14 + i)) c)) ∧ fnd (A 39) (fun i => A (14 + i)) c < A 39)) := by
      refine wh_0 (P := fun k s => s = nI k ∧ ∀ j, j < k → A (14 + j) ≠ c) (A 39) (by omega) ⟨rfl, fun j hj => by omega⟩ ?_
      rintro k s hk ⟨rfl, hj⟩
      have e1 : nI p + (39 : Int32) = nI (p + 39) := nI_add p 39
      have e2 : nI p + (14 : Int32) + nI k = nI (p + (14 + k)) := by
        rw [show nI p + (14 : Int32) = nI (p + 14) from nI_add p 14, nI_add, Nat.add_assoc]
      have hbody : b_X10_slugOn_2 (nI p) (nI c) σ (nI k) = if nI (A 39) ≤ nI k then some (.inr (.inl (nI k))) else if σ 76 (p + (14 + k)) = nI c then some (.inr (.inr (nI k))) else some (.inl (nI k + 1)) := by
        unfold b_X10_slugOn_2
        rw [e1, e2, if_pos (inR_of (vp_in_nI (by omega) (by omega))), nI_clamp (by omega), hM 39 (by omega), if_pos (inR_of (vp_in_nI (n := p + (14 + k)) (by omega) (by omega))), nI_clamp (by omega)]
      by_cases hlt : k < A 39
      · rw [hbody, if_neg (nnle hlt (by omega)), hM (14 + k) (by omega)]
        by_cases he : A (14 + k) = c
        · right
          rw [if_pos (by rw [he])]
          have hf := fnd_at (f := fun i => A (14 + i)) hlt he hj
          exact ok_some ⟨_, rfl, Or.inr ⟨by rw [hf], by rw [hf]; exact hlt⟩⟩
        · left
          rw [if_neg (nne he (hb k hlt) hc)]
          refine ⟨hlt, ok_some (in_l ⟨nI_1 k, fun j h1 => ?_⟩)⟩
          by_cases e : j = k
          · rw [e]; exact he
          · exact hj j (by omega)
      · right
        obtain rfl : k = A 39 := by omega
        rw [hbody, if_pos (nle (Nat.le_refl _) (by omega))]
        exact ok_some ⟨_, rfl, Or.inl ⟨_, rfl, fnd_no (f := fun i => A (14 + i)) hj⟩⟩
    refine ok_bind hloop (fun r h => ?_)
    rcases h with ⟨e, rfl, h⟩ | ⟨rfl, h⟩
    · refine ok_some ?_
      rw [if_neg (by omega)]
    · refine ok_some ?_
      rw [if_pos h]
  obtain ⟨y, e, rfl⟩ := key
  exact e
/-- a page is sound -/
def okc (c : Nat) : Prop := c < 98 ∧ c % 10 < 8
def WFs (A : Pg) : Prop := A 38 ≤ 7 ∧ A 39 ≤ 4 ∧ A 40 ≤ 6 ∧ A 41 ≤ 4 ∧ (∀ i, i < A 38 → okc (A i) ∧ A (7 + i) < 4) ∧ (∀ i, i < A 39 → okc (A (14 + i))) ∧ (∀ h, h < A 41 → A (18 + h) < 4 ∧ 1 ≤ A (22 + h) ∧ A (22 + h) ≤ 9) ∧ (∀ i, i < A 40 → A (26 + i) < 4 ∧ A (32 + i) < 8) ∧ (∀ i j, i < A 38 → j < A 38 → A i = A j → i = j) ∧ (∀ i j, i < A 38 → j < A 39 → A i ≠ A (14 + j)) ∧ (∀ i j, i < A 39 → j < A 39 → A (14 + i) = A (14 + j) → i = j)
theorem mturn : ∀ k, k < 4 → ∀ r, r < 10 → ∀ c, c < 8 → ∀ o : Bool, (if 0 ≤ nI c + ((if o then (-1 : Int32) else 1) * f_X10_turnOf (nI k) (nI r)) then if nI c + ((if o then (-1 : Int32) else 1) * f_X10_turnOf (nI k) (nI r)) < 8 then nI c + ((if o then (-1 : Int32) else 1) * f_X10_turnOf (nI k) (nI r)) else 7 else 0) = nI (tcol k r c o) := by decide +kernel
def MInv (g : Nat → Nat) (k : Nat) (o : Nat → Bool) (R : Nat × Nat × Nat × Nat) (P : Nat → Nat) (σ : Sg) (r : Nat) (s : Int32 × Int32 × Int32 × Sg) : Prop :=
  FrM σ s.2.2.2 ∧ s.2.2.1 = nI r ∧ ((∃ c sp m : Nat, c < 8 ∧ sp < 10 ∧ s.1 = nI sp ∧ s.2.1 = nI c ∧ s.2.2.2 75 16 = -4 ∧ s.2.2.2 75 17 = 10 ∧ s.2.2.2 75 18 = nI m ∧ s.2.2.2 75 19 = 0 ∧ go g k o (10 - r) r c sp m = R ∧ (∀ j, r ≤ j → pth g k o (10 - r) r c sp j = P j) ∧ ∀ j, j < r → s.2.2.2 81 j = nI (P j)) ∨
    (R.2.1 < 10 ∧ s.2.2.2 75 16 = rI R.1 ∧ s.2.2.2 75 17 = nI R.2.1 ∧ s.2.2.2 75 18 = nI R.2.2.1 ∧ s.2.2.2 75 19 = nI R.2.2.2 ∧ ∀ j, j ≤ R.2.1 → s.2.2.2 81 j = nI (P j)))
def MDone (R : Nat × Nat × Nat × Nat) (P : Nat → Nat) (σ : Sg) (s : Int32 × Int32 × Int32 × Sg) : Prop :=
  FrM σ s.2.2.2 ∧ s.2.2.2 75 16 = rI R.1 ∧ s.2.2.2 75 17 = nI R.2.1 ∧ s.2.2.2 75 18 = nI R.2.2.1 ∧ s.2.2.2 75 19 = nI R.2.2.2 ∧ ∀ j, j ≤ R.2.1 → s.2.2.2 81 j = nI (P j)
def MEnd (g : Nat → Nat) (k sp c : Nat) (o : Nat → Bool) (σ σ' : Sg) : Prop :=
  FrM σ σ' ∧ σ' 75 16 = rI (go g k o 10 0 c sp 0).1 ∧ σ' 75 17 = nI (go g k o 10 0 c sp 0).2.1 ∧ σ' 75 18 = nI (go g k o 10 0 c sp 0).2.2.1 ∧ σ' 75 19 = nI (go g k o 10 0 c sp 0).2.2.2 ∧ ∀ j, j ≤ (go g k o 10 0 c sp 0).2.1 → j < 10 → σ' 81 j = nI (pth g k o 10 0 c sp j)
theorem m_step {p k r : Nat} {A : Pg} {σ : Sg} {oth : Int32} {o : Nat → Bool} {R : Nat × Nat × Nat × Nat} {P : Nat → Nat} {s : Int32 × Int32 × Int32 × Sg} (hM : RM p A σ) (hp : p + 41 ≤ 205) (hW : WFs A) (hk : k < 4) (ho : ∀ r, r < 10 → (((oth >>> (nI r &&& 31)) &&& (1 : Int32)) = 1 ↔ o r = true)) (hlt : r < 10) (hI : MInv (gOf A) k o R P σ r s) :
    Ok (b_X10_runsOn_54 (nI p) oth (nI k) s) (fun y => (∃ s', y = .inl s' ∧ MInv (gOf A) k o R P σ (r + 1) s') ∨ (y = .inr s ∧ MDone R P σ s)) := by
  obtain ⟨hF, e3, hI⟩ := hI
  unfold b_X10_runsOn_54
  rw [e3]
  refine ok_f (show ¬ nI 10 ≤ nI r from nnle hlt (by omega)) ?_
  rcases hI with ⟨c, sp, m, hc, hs, e1, e2, f0, f1, f3, f4, hR, hP, hQ⟩ | ⟨hR10, f0, f1, f3, f4, hQ⟩
  · rw [f1]
    refine ok_t rfl ?_
    refine ok_app ?_
    rw [e1, e2]
    have hx : 10 * r + c < 100 := by omega
    have eC : (10 : Int32) * nI r + nI c = nI (10 * r + c) := by
      rw [show (10 : Int32) = nI 10 from rfl, pk_mul, nI_add]
    rw [eC]
    obtain ⟨w1, w2, w3, w4, w5, w6, w7, w8, w9, w10, w11⟩ := hW
    have hM1 := hM.fr hF
    refine ok_be (m_pegOn hM1 hp w1 (fun i hi => by have := (w5 i hi).1.1; omega) (by omega)) ?_
    refine ok_in (vp_in_nI hlt (by omega)) ?_
    refine ok_app ?_
    rw [nI_clamp (by omega)]
    generalize hσ2 : up2 s.2.2.2 81 r (nI c) = σ2
    have hF2 : FrM σ σ2 := by rw [← hσ2]; exact hF.col
    have g0 : σ2 75 16 = -4 := by rw [← hσ2]; simp [up2, f0]
    have g1 : σ2 75 17 = 10 := by rw [← hσ2]; simp [up2, f1]
    have g3 : σ2 75 18 = nI m := by rw [← hσ2]; simp [up2, f3]
    have g4 : σ2 75 19 = 0 := by rw [← hσ2]; simp [up2, f4]
    obtain ⟨n, hn10⟩ : ∃ n, 10 - r = n + 1 := ⟨9 - r, by omega⟩
    have hn9 : 10 - (r + 1) = n := by omega
    have hPr : P r = c := by
      rw [← hP r (Nat.le_refl r), hn10]
      simp [pth]
    have hQ2 : ∀ j, j < r + 1 → σ2 81 j = nI (P j) := by
      intro j hj
      rw [← hσ2]
      by_cases hjr : j = r
      · subst hjr
        simp [up2, hPr]
      · simp [up2, hjr]
        exact hQ j (by omega)
    refine ok_be (m_slugOn (hM.fr hF2) hp w2 (fun i hi => by have := (w6 i hi).1; omega) (by omega)) ?_
    rw [hn10] at hR
    have hPs : ∀ j, r + 1 ≤ j → pth (gOf A) k o (n + 1) r c sp j = P j := fun j hj => by
      rw [← hn10]
      exact hP j (by omega)
    simp only [app]
    by_cases v1 : fnd (A 39) (fun i => A (14 + i)) (10 * r + c) < A 39
    · -- a slug
      rw [if_pos v1, if_neg (nneg4 (by omega))]
      have hg : gOf A (10 * r + c) = 1 := by unfold gOf; rw [if_pos v1]
      have hR' : R = (0, r, m, 1) := by rw [← hR]; simp [go, hg]
      refine ok_some (Or.inl ⟨_, rfl, (hF2.up (by omega)).up (by omega), nI_1 r, Or.inr ?_⟩)
      rw [hR']
      refine ⟨hlt, by simp [up2, g0, rI], by simp [up2], by simp [up2, g3], by simp [up2]; rfl, fun j h1 => ?_⟩
      show up2 (up2 σ2 75 19 1) 75 17 (nI r) 81 j = _
      rw [up2_cell _ _ _ (by decide), up2_cell _ _ _ (by decide)]
      exact hQ2 j (by simp at h1; omega)
    · rw [if_neg v1, if_pos rfl]
      by_cases v0 : fnd (A 38) A (10 * r + c) < A 38
      · have hg : gOf A (10 * r + c) = fnd (A 38) A (10 * r + c) + 2 := by unfold gOf; rw [if_neg v1, if_pos v0]
        rw [if_pos v0, if_neg (nneg4 (by omega))]
        rw [mloses k hk]
        obtain ⟨q1, q2⟩ := sp_sub sp hs k hk
        by_cases hsp : lose k < sp
        · rw [q1 hsp, if_pos (show (0 : Int32) < nI (sp - lose k) from nI_lt (a := 0) (by omega) (by omega))]
          have ht := mturn k hk r hlt c hc (o r)
          have ej : (if (oth >>> (nI r &&& 31)) &&& (1 : Int32) = 1 then (-1 : Int32) else 1) = (if o r then (-1 : Int32) else 1) := by
            by_cases h : o r = true
            · rw [if_pos ((ho r hlt).mpr h), if_pos h]
            · rw [if_neg (fun z => h ((ho r hlt).mp z)), if_neg h]
          rw [ej, ht, g3, nI_1 m]
          refine ok_some (Or.inl ⟨_, rfl, hF2.up (by omega), nI_1 r, Or.inl ⟨tcol k r c (o r), sp - lose k, m + 1, tcol_lt _ _ _ _, by omega, rfl, rfl, by simp [up2, g0], by simp [up2, g1], by simp [up2], by simp [up2, g4], ?_, ?_, ?_⟩⟩)
          · rw [hn9, ← hR]
            simp [go, hg, Nat.not_le.mpr hsp]
          · intro j hj
            rw [hn9, ← hPs j hj]
            simp [pth, hg]
            intro h
            omega
          · intro j hj
            show up2 σ2 75 18 (nI (m + 1)) 81 j = _
            rw [up2_cell _ _ _ (by decide)]
            exact hQ2 j hj
        · rw [if_neg (q2 (by omega))]
          have hR' : R = (fnd (A 38) A (10 * r + c) + 1, r, m + 1, 0) := by
            rw [← hR]
            simp [go, hg, Nat.not_lt.mp hsp]
          refine ok_some (Or.inl ⟨_, rfl, ((hF2.up (by omega)).up (by omega)).up (by omega), nI_1 r, Or.inr ?_⟩)
          rw [hR']
          refine ⟨hlt, by simp [up2, rI], by simp [up2], by simp [up2, g3]; exact nI_1 m, by simp [up2, g4]; rfl, fun j h1 => ?_⟩
          show up2 (up2 (up2 σ2 75 18 (σ2 75 18 + 1)) 75 16 (nI (fnd (A 38) A (10 * r + c)))) 75 17 (nI r) 81 j = _
          rw [up2_cell _ _ _ (by decide), up2_cell _ _ _ (by decide), up2_cell _ _ _ (by decide)]
          exact hQ2 j (by simp at h1; omega)
      · have hg : gOf A (10 * r + c) = 0 := by unfold gOf; rw [if_neg v1, if_neg v0]
        rw [if_neg v0, if_pos rfl]
        refine ok_some (Or.inl ⟨_, rfl, hF2, nI_1 r, Or.inl ⟨c, sp, m, hc, hs, rfl, rfl, g0, g1, g3, g4, ?_, ?_, hQ2⟩⟩)
        · rw [hn9, ← hR]
          simp [go, hg]
        · intro j hj
          rw [hn9, ← hPs j hj]
          simp [pth, hg]
          intro h
          omega
  · rw [f1]
    refine ok_f (show ¬ nI R.2.1 = nI 10 from nne (by omega) (by omega) (by omega)) ?_
    refine ok_some (Or.inr ⟨?_, hF, f0, f1, f3, f4, hQ⟩)
    rw [← e3]
theorem m_runsOn {p h c : Nat} {A : Pg} {σ : Sg} {oth : Int32} {o : Nat → Bool} (hM : RM p A σ) (hp : p + 41 ≤ 205) (hW : WFs A) (hh : h < 4) (hk : A (18 + h) < 4) (hs : A (22 + h) < 10) (hc : c < 8) (ho : ∀ r, r < 10 → (((oth >>> (nI r &&& 31)) &&& (1 : Int32)) = 1 ↔ o r = true)) :
    Ok (f_X10_runsOn (nI p) (nI h) (nI c) oth σ) (MEnd (gOf A) (A (18 + h)) (A (22 + h)) c o σ) := by
  have e1 : nI p + (18 : Int32) + nI h = nI (p + (18 + h)) := by
    rw [show nI p + (18 : Int32) = nI (p + 18) from nI_add p 18, nI_add, Nat.add_assoc]
  have e2 : nI p + (22 : Int32) + nI h = nI (p + (22 + h)) := by
    rw [show nI p + (22 : Int32) = nI (p + 22) from nI_add p 22, nI_add, Nat.add_assoc]
  unfold f_X10_runsOn
  rw [e1, e2]
  refine ok_in (vp_in_nI (by omega) (by omega)) (ok_app ?_)
  refine ok_in (vp_in_nI (by omega) (by omega)) (ok_app ?_)
  rw [nI_clamp (by omega), nI_clamp (by omega), hM (18 + h) (by omega), hM (22 + h) (by omega)]
  refine ok_app (ok_app (ok_app (ok_app ?_)))
  generalize hσ1 : up2 (up2 (up2 (up2 σ 75 16 (-4)) 75 17 10) 75 18 0) 75 19 0 = σ1
  have hF1 : FrM σ σ1 := by
    rw [← hσ1]
    exact (((FrM.rf.up (by omega)).up (by omega)).up (by omega)).up (by omega)
  generalize hR : go (gOf A) (A (18 + h)) o 10 0 c (A (22 + h)) 0 = R
  have key : Ok (wh (b_X10_runsOn_54 (nI p) oth (nI (A (18 + h)))) 4096 (nI (A (22 + h)), nI c, 0, σ1)) (fun e => MInv (gOf A) (A (18 + h)) o R (pth (gOf A) (A (18 + h)) o 10 0 c (A (22 + h))) σ 10 e ∨ MDone R (pth (gOf A) (A (18 + h)) o 10 0 c (A (22 + h))) σ e) := by
    refine wh_0 (P := MInv (gOf A) (A (18 + h)) o R (pth (gOf A) (A (18 + h)) o 10 0 c (A (22 + h))) σ) 10 (by omega) ?_ ?_
    · refine ⟨hF1, rfl, Or.inl ⟨c, A (22 + h), 0, hc, hs, rfl, rfl, ?_, ?_, ?_, ?_, hR, fun j _ => rfl, fun j hj => by omega⟩⟩
      all_goals (rw [← hσ1]; simp [up2])
      rfl
    · intro r s hr10 hI
      by_cases hlt : r < 10
      · obtain ⟨y, e, h⟩ := m_step hM hp hW hk ho hlt hI
        rcases h with ⟨s', rfl, h⟩ | ⟨rfl, h⟩
        · exact Or.inl ⟨hlt, _, e, s', rfl, h⟩
        · exact Or.inr ⟨_, e, _, rfl, Or.inr h⟩
      · obtain rfl : r = 10 := by omega
        right
        have e3 := hI.2.1
        unfold b_X10_runsOn_54
        rw [e3]
        refine ok_t (show nI 10 ≤ nI 10 from nle (Nat.le_refl _) (by omega)) ?_
        refine ok_some (in_r (Or.inl ?_))
        rw [← e3]
        exact hI
  refine ok_bind key (fun e he => ok_some ?_)
  unfold MEnd
  rw [hR]
  rcases he with ⟨hF, e3, ⟨c', sp, m, hc', hs', e1, e2, f0, f1, f3, f4, hR', hP, hQ⟩ | ⟨hR10, f0, f1, f3, f4, hQ⟩⟩ | ⟨hF, f0, f1, f3, f4, hQ⟩
  · simp [go] at hR'
    rw [← hR']
    exact ⟨hF, f0, f1, f3, by rw [f4]; rfl, fun j h1 h2 => hQ j h2⟩
  · exact ⟨hF, f0, f1, f3, f4, fun j h1 _ => hQ j h1⟩
  · exact ⟨hF, f0, f1, f3, f4, fun j h1 _ => hQ j h1⟩
