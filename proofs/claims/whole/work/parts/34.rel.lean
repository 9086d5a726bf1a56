-- pages: what a change makes of them
def pu (A : Pg) (k v : Nat) : Pg := fun j => if j = k then v else A j
theorem pu_s (A : Pg) (k v : Nat) : pu A k v k = v := by simp [pu]
theorem pu_n (A : Pg) {k j : Nat} (v : Nat) (h : j ≠ k) : pu A k v j = A j := by simp [pu, h]
def pPeg (A : Pg) (c k : Nat) : Pg := pu (pu (pu A (A 38) c) (7 + A 38) k) 38 (A 38 + 1)
def pSlug (A : Pg) (c : Nat) : Pg := pu (pu A (14 + A 39) c) 39 (A 39 + 1)
def pSuit (A : Pg) (h c : Nat) : Pg := pu (pu (pu A (26 + A 40) h) (32 + A 40) c) 40 (A 40 + 1)
theorem gOf_slug {A : Pg} {c j : Nat} (hj : j < A 39) (h : A (14 + j) = c) : gOf A c = 1 := by
  unfold gOf
  rw [if_pos]
  rcases fnd_spec (A 39) (fun i => A (14 + i)) c with ⟨h1, -, -⟩ | ⟨h1, h2⟩
  · exact h1
  · exact absurd h (h2 j hj)
theorem gOf_peg {A : Pg} {c i : Nat} (hs : ∀ j, j < A 39 → A (14 + j) ≠ c) (hi : i < A 38) (h : A i = c) (hu : ∀ j, j < A 38 → A j = c → j = i) : gOf A c = i + 2 := by
  unfold gOf
  have e := fnd_at hi h (fun j hj q => by have := hu j (by omega) q; omega)
  rw [fnd_no (f := fun i => A (14 + i)) hs, if_neg (by omega), e, if_pos hi]
theorem gOf_none {A : Pg} {c : Nat} (hs : ∀ j, j < A 39 → A (14 + j) ≠ c) (hp : ∀ i, i < A 38 → A i ≠ c) : gOf A c = 0 := by
  unfold gOf
  rw [fnd_no (f := fun i => A (14 + i)) hs, if_neg (by omega), fnd_no hp, if_neg (by omega)]
/-- what lies in a cell: a slug, a peg, nothing -/
theorem gOf_cases (A : Pg) (c : Nat) : (gOf A c = 1 ∧ ∃ j, j < A 39 ∧ A (14 + j) = c) ∨ ((∀ j, j < A 39 → A (14 + j) ≠ c) ∧ ∃ i, gOf A c = i + 2 ∧ i < A 38 ∧ A i = c) ∨ (gOf A c = 0 ∧ (∀ j, j < A 39 → A (14 + j) ≠ c) ∧ ∀ i, i < A 38 → A i ≠ c) := by
  unfold gOf
  rcases fnd_spec (A 39) (fun i => A (14 + i)) c with ⟨h1, h2, -⟩ | ⟨h1, h2⟩
  · exact Or.inl ⟨by rw [if_pos h1], _, h1, h2⟩
  · rw [if_neg (by omega)]
    rcases fnd_spec (A 38) A c with ⟨h3, h4, -⟩ | ⟨h3, h4⟩
    · exact Or.inr (Or.inl ⟨h2, _, by rw [if_pos h3], h3, h4⟩)
    · exact Or.inr (Or.inr ⟨by rw [if_neg (by omega)], h2, h4⟩)
theorem gOf_free {A : Pg} {c : Nat} (h : gOf A c = 0) : (∀ j, j < A 39 → A (14 + j) ≠ c) ∧ ∀ i, i < A 38 → A i ≠ c := by
  rcases gOf_cases A c with ⟨h1, -⟩ | ⟨-, i, h1, -⟩ | ⟨-, h1⟩
  · omega
  · omega
  · exact h1
/-- the class's slope holds a page -/
def RX (b : Nat) (A : Pg) (σ : Sg) : Prop := σ b 2 = nI (A 38) ∧ σ b 4 = nI (A 39) ∧ σ b 7 = nI (A 41) ∧ σ b 10 = nI (A 40) ∧ (∀ i, i < A 38 → σ (b + 1) i = nI (A i) ∧ σ (b + 2) i = nI (A (7 + i))) ∧ (∀ i, i < A 39 → σ (b + 3) i = nI (A (14 + i))) ∧ (∀ h, h < A 41 → σ (b + 4) h = nI (A (18 + h)) ∧ σ (b + 5) h = nI (A (22 + h))) ∧ (∀ i, i < A 40 → σ (b + 6) i = nI (A (26 + i)) ∧ σ (b + 7) i = nI (A (32 + i))) ∧ ∀ c, c < 100 → σ (b + 8) c = gI (gOf A c)
theorem RX.keep {b : Nat} {A : Pg} {σ σ' : Sg} (h : RX b A σ) (hf : ∀ k, k ≤ 8 → σ' (b + k) = σ (b + k)) : RX b A σ' := by
  obtain ⟨h1, h2, h3, h4, h5, h6, h7, h8, h9⟩ := h
  have f0 := hf 0 (by omega)
  rw [Nat.add_zero] at f0
  exact ⟨by rw [f0]; exact h1, by rw [f0]; exact h2, by rw [f0]; exact h3, by rw [f0]; exact h4, fun i hi => by rw [hf 1 (by omega), hf 2 (by omega)]; exact h5 i hi, fun i hi => by rw [hf 3 (by omega)]; exact h6 i hi, fun i hi => by rw [hf 4 (by omega), hf 5 (by omega)]; exact h7 i hi, fun i hi => by rw [hf 6 (by omega), hf 7 (by omega)]; exact h8 i hi, fun c hc => by rw [hf 8 (by omega)]; exact h9 c hc⟩
theorem RX.fr {b : Nat} {A : Pg} {σ σ' : Sg} {p : Nat → Prop} (h : RX b A σ) (hf : Fr p σ σ') (hp : ∀ k, k ≤ 8 → ¬ p (b + k)) : RX b A σ' := h.keep (fun k hk => hf _ (hp k hk))
/-- pages that tell the same -/
def Eqp (A B : Pg) : Prop := A 38 = B 38 ∧ A 39 = B 39 ∧ A 40 = B 40 ∧ A 41 = B 41 ∧ (∀ i, i < A 38 → A i = B i ∧ A (7 + i) = B (7 + i)) ∧ (∀ i, i < A 39 → A (14 + i) = B (14 + i)) ∧ (∀ h, h < A 41 → A (18 + h) = B (18 + h) ∧ A (22 + h) = B (22 + h)) ∧ ∀ i, i < A 40 → A (26 + i) = B (26 + i) ∧ A (32 + i) = B (32 + i)
theorem Eqp.g {A B : Pg} (h : Eqp A B) (c : Nat) : gOf A c = gOf B c := by
  obtain ⟨h1, h2, -, -, h3, h4, -⟩ := h
  have hs : fnd (A 39) (fun i => A (14 + i)) c = fnd (B 39) (fun i => B (14 + i)) c := by
    rcases fnd_spec (A 39) (fun i => A (14 + i)) c with ⟨a1, a2, a3⟩ | ⟨a1, a2⟩
    · symm
      exact fnd_at (by omega) (by rw [← h4 _ a1]; exact a2) (fun j hj => by rw [← h4 j (by omega)]; exact a3 j hj)
    · rw [a1, h2]
      symm
      exact fnd_no (f := fun i => B (14 + i)) (fun j hj => by rw [← h4 j (by omega)]; exact a2 j (by omega))
  have hp : fnd (A 38) A c = fnd (B 38) B c := by
    rcases fnd_spec (A 38) A c with ⟨a1, a2, a3⟩ | ⟨a1, a2⟩
    · symm
      exact fnd_at (by omega) (by rw [← (h3 _ a1).1]; exact a2) (fun j hj => by rw [← (h3 j (by omega)).1]; exact a3 j hj)
    · rw [a1, h1]
      symm
      exact fnd_no (fun j hj => by rw [← (h3 j (by omega)).1]; exact a2 j (by omega))
  unfold gOf
  rw [hs, hp, h1, h2]
theorem Eqp.symm {A B : Pg} (h : Eqp A B) : Eqp B A := by
  obtain ⟨h1, h2, h3, h4, h5, h6, h7, h8⟩ := h
  exact ⟨h1.symm, h2.symm, h3.symm, h4.symm, fun i hi => ⟨(h5 i (by omega)).1.symm, (h5 i (by omega)).2.symm⟩, fun i hi => (h6 i (by omega)).symm, fun i hi => ⟨(h7 i (by omega)).1.symm, (h7 i (by omega)).2.symm⟩, fun i hi => ⟨(h8 i (by omega)).1.symm, (h8 i (by omega)).2.symm⟩⟩
theorem RX.eqp {b : Nat} {A B : Pg} {σ : Sg} (h : RX b A σ) (e : Eqp A B) : RX b B σ := by
  obtain ⟨h1, h2, h3, h4, h5, h6, h7, h8, h9⟩ := h
  have eg := e.g
  obtain ⟨e1, e2, e3, e4, e5, e6, e7, e8⟩ := e
  refine ⟨by rw [← e1]; exact h1, by rw [← e2]; exact h2, by rw [← e4]; exact h3, by rw [← e3]; exact h4, fun i hi => ?_, fun i hi => ?_, fun i hi => ?_, fun i hi => ?_, fun c hc => by rw [← eg c]; exact h9 c hc⟩
  · rw [← e1] at hi; rw [← (e5 i hi).1, ← (e5 i hi).2]; exact h5 i hi
  · rw [← e2] at hi; rw [← e6 i hi]; exact h6 i hi
  · rw [← e4] at hi; rw [← (e7 i hi).1, ← (e7 i hi).2]; exact h7 i hi
  · rw [← e3] at hi; rw [← (e8 i hi).1, ← (e8 i hi).2]; exact h8 i hi
theorem WFs.eqp {A B : Pg} (h : WFs A) (e : Eqp A B) : WFs B := by
  obtain ⟨w1, w2, w3, w4, w5, w6, w7, w8, w9, w10, w11⟩ := h
  obtain ⟨e1, e2, e3, e4, e5, e6, e7, e8⟩ := e
  refine ⟨by omega, by omega, by omega, by omega, fun i hi => ?_, fun i hi => ?_, fun i hi => ?_, fun i hi => ?_, fun i j hi hj => ?_, fun i j hi hj => ?_, fun i j hi hj => ?_⟩
  · rw [← e1] at hi; rw [← (e5 i hi).1, ← (e5 i hi).2]; exact w5 i hi
  · rw [← e2] at hi; rw [← e6 i hi]; exact w6 i hi
  · rw [← e4] at hi; rw [← (e7 i hi).1, ← (e7 i hi).2]; exact w7 i hi
  · rw [← e3] at hi; rw [← (e8 i hi).1, ← (e8 i hi).2]; exact w8 i hi
  · rw [← e1] at hi hj; rw [← (e5 i hi).1, ← (e5 j hj).1]; exact w9 i j hi hj
  · rw [← e1] at hi; rw [← e2] at hj; rw [← (e5 i hi).1, ← e6 j hj]; exact w10 i j hi hj
  · rw [← e2] at hi hj; rw [← e6 i hi, ← e6 j hj]; exact w11 i j hi hj
/-- the slope's own cells -/
def slp (b : Nat) : Nat → Prop := fun q => b ≤ q ∧ q ≤ b + 8
theorem x_stand {b c : Nat} {σ : Sg} {v : Int32} (hc : c < 100) : f_X7_stand b (nI c) v σ = some (up2 σ (b + 8) c v) := by
  unfold f_X7_stand
  rw [if_neg (nlt (by omega)), if_neg (show ¬ (100 : Int32) ≤ nI c from nnle (b := 100) hc (by omega)), if_pos (inR_of (vp_in_nI hc (by omega))), nI_clamp (by omega)]
theorem gI_free {v : Nat} (hv : v < 2 ^ 31) : gI v = -1 ↔ v = 0 := by
  unfold gI
  by_cases h0 : v = 0
  · simp [h0]
  · rw [if_neg h0]
    by_cases h1 : v = 1
    · rw [if_pos h1]
      simp [h0]
    · rw [if_neg h1]
      simp only [h0, iff_false]
      exact nneg1 (by omega)
theorem x_isFree {b c : Nat} {A : Pg} {σ : Sg} (h : RX b A σ) (hw : A 38 ≤ 7) (hc : okc c) : f_X7_isFree b (nI c) σ = some (if gOf A c = 0 then 1 else 0) := by
  unfold f_X7_isFree
  rw [xCell.1 ⟨c, hc, rfl⟩, if_neg (by decide), if_pos (inR_of (vp_in_nI (n := c) (by have := hc.1; omega) (by omega))), nI_clamp (by have := hc.1; omega), h.2.2.2.2.2.2.2.2 c (by have := hc.1; omega)]
  have hl : gOf A c < A 38 + 2 := gOf_lt
  by_cases hf : gOf A c = 0
  · rw [if_pos ((gI_free (by omega)).mpr hf), if_pos hf]
  · rw [if_neg (fun q => hf ((gI_free (by omega)).mp q)), if_neg hf]
theorem gOf_pPeg {A : Pg} {c k : Nat} (hW : WFs A) (h7 : A 38 < 7) (hf : gOf A c = 0) (x : Nat) : gOf (pPeg A c k) x = if x = c then A 38 + 2 else gOf A x := by
  obtain ⟨w1, w2, w3, w4, w5, w6, w7, w8, w9, w10, w11⟩ := hW
  obtain ⟨f1, f2⟩ := gOf_free hf
  have e39 : pPeg A c k 39 = A 39 := by unfold pPeg; rw [pu_n _ _ (by omega), pu_n _ _ (by omega), pu_n _ _ (by omega)]
  have e38 : pPeg A c k 38 = A 38 + 1 := by unfold pPeg; rw [pu_s]
  have es : ∀ j, j < A 39 → pPeg A c k (14 + j) = A (14 + j) := fun j hj => by unfold pPeg; rw [pu_n _ _ (by omega), pu_n _ _ (by omega), pu_n _ _ (by omega)]
  have ep : ∀ i, i < A 38 → pPeg A c k i = A i := fun i hi => by unfold pPeg; rw [pu_n _ _ (by omega), pu_n _ _ (by omega), pu_n _ _ (by omega)]
  have en : pPeg A c k (A 38) = c := by unfold pPeg; rw [pu_n _ _ (by omega), pu_n _ _ (by omega), pu_s]
  by_cases hx : x = c
  · subst hx
    rw [if_pos rfl]
    refine gOf_peg (i := A 38) (fun j hj => ?_) (by omega) en (fun j hj q => ?_)
    · rw [e39] at hj
      rw [es j hj]
      exact f1 j hj
    · rw [e38] at hj
      by_cases e : j = A 38
      · exact e
      · rw [ep j (by omega)] at q
        exact absurd q (f2 j (by omega))
  · rw [if_neg hx]
    rcases gOf_cases A x with ⟨h1, j, hj, h2⟩ | ⟨hs, i, h1, hi, h2⟩ | ⟨h1, h2, h3⟩
    · rw [h1]
      exact gOf_slug (by rw [e39]; exact hj) (by rw [es j hj]; exact h2)
    · rw [h1]
      refine gOf_peg (fun j hj => ?_) (by rw [e38]; omega) (by rw [ep i hi]; exact h2) (fun j hj q => ?_)
      · rw [e39] at hj
        rw [es j hj]
        exact hs j hj
      · rw [e38] at hj
        by_cases e : j = A 38
        · subst e
          rw [en] at q
          exact absurd q.symm hx
        · rw [ep j (by omega)] at q
          exact w9 j i (by omega) hi (by rw [q, h2])
    · rw [h1]
      refine gOf_none (fun j hj => ?_) (fun i hi => ?_)
      · rw [e39] at hj
        rw [es j hj]
        exact h2 j hj
      · rw [e38] at hi
        by_cases e : i = A 38
        · subst e
          rw [en]
          exact fun z => hx z.symm
        · rw [ep i (by omega)]
          exact h3 i (by omega)
theorem WFs_pPeg {A : Pg} {c k : Nat} (hW : WFs A) (h7 : A 38 < 7) (hf : gOf A c = 0) (hc : okc c) (hk : k < 4) : WFs (pPeg A c k) := by
  obtain ⟨w1, w2, w3, w4, w5, w6, w7, w8, w9, w10, w11⟩ := hW
  obtain ⟨f1, f2⟩ := gOf_free hf
  have e39 : pPeg A c k 39 = A 39 := by unfold pPeg; rw [pu_n _ _ (by omega), pu_n _ _ (by omega), pu_n _ _ (by omega)]
  have e40 : pPeg A c k 40 = A 40 := by unfold pPeg; rw [pu_n _ _ (by omega), pu_n _ _ (by omega), pu_n _ _ (by omega)]
  have e41 : pPeg A c k 41 = A 41 := by unfold pPeg; rw [pu_n _ _ (by omega), pu_n _ _ (by omega), pu_n _ _ (by omega)]
  have e38 : pPeg A c k 38 = A 38 + 1 := by unfold pPeg; rw [pu_s]
  have eo : ∀ j, 14 ≤ j → j < 38 → pPeg A c k j = A j := fun j h1 h2 => by unfold pPeg; rw [pu_n _ _ (by omega), pu_n _ _ (by omega), pu_n _ _ (by omega)]
  have ep : ∀ i, i < A 38 → pPeg A c k i = A i := fun i hi => by unfold pPeg; rw [pu_n _ _ (by omega), pu_n _ _ (by omega), pu_n _ _ (by omega)]
  have er : ∀ i, i < A 38 → pPeg A c k (7 + i) = A (7 + i) := fun i hi => by unfold pPeg; rw [pu_n _ _ (by omega), pu_n _ _ (by omega), pu_n _ _ (by omega)]
  have en : pPeg A c k (A 38) = c := by unfold pPeg; rw [pu_n _ _ (by omega), pu_n _ _ (by omega), pu_s]
  have en2 : pPeg A c k (7 + A 38) = k := by unfold pPeg; rw [pu_n _ _ (by omega), pu_s]
  refine ⟨by omega, by omega, by omega, by omega, fun i hi => ?_, fun i hi => ?_, fun i hi => ?_, fun i hi => ?_, fun i j hi hj => ?_, fun i j hi hj => ?_, fun i j hi hj => ?_⟩
  · rw [e38] at hi
    by_cases e : i = A 38
    · subst e; rw [en, en2]; exact ⟨hc, hk⟩
    · rw [ep i (by omega), er i (by omega)]; exact w5 i (by omega)
  · rw [e39] at hi; rw [eo _ (by omega) (by omega)]; exact w6 i hi
  · rw [e41] at hi; rw [eo _ (by omega) (by omega), eo _ (by omega) (by omega)]; exact w7 i hi
  · rw [e40] at hi; rw [eo _ (by omega) (by omega), eo _ (by omega) (by omega)]; exact w8 i hi
  · rw [e38] at hi hj
    intro q
    by_cases e : i = A 38
    · by_cases e' : j = A 38
      · omega
      · subst e
        rw [en, ep j (by omega)] at q
        exact absurd q.symm (f2 j (by omega))
    · by_cases e' : j = A 38
      · subst e'
        rw [en, ep i (by omega)] at q
        exact absurd q (f2 i (by omega))
      · rw [ep i (by omega), ep j (by omega)] at q
        exact w9 i j (by omega) (by omega) q
  · rw [e38] at hi
    rw [e39] at hj
    rw [eo (14 + j) (by omega) (by omega)]
    by_cases e : i = A 38
    · subst e; rw [en]; exact fun q => f1 j hj q.symm
    · rw [ep i (by omega)]; exact w10 i j (by omega) hj
  · rw [e39] at hi hj
    rw [eo _ (by omega) (by omega), eo _ (by omega) (by omega)]
    exact w11 i j hi hj
theorem gOf_pSlug {A : Pg} {c : Nat} (hW : WFs A) (h4 : A 39 < 4) (hf : gOf A c = 0) (x : Nat) : gOf (pSlug A c) x = if x = c then 1 else gOf A x := by
  obtain ⟨w1, w2, w3, w4, w5, w6, w7, w8, w9, w10, w11⟩ := hW
  obtain ⟨f1, f2⟩ := gOf_free hf
  have e39 : pSlug A c 39 = A 39 + 1 := by unfold pSlug; rw [pu_s]
  have e38 : pSlug A c 38 = A 38 := by unfold pSlug; rw [pu_n _ _ (by omega), pu_n _ _ (by omega)]
  have es : ∀ j, j < A 39 → pSlug A c (14 + j) = A (14 + j) := fun j hj => by unfold pSlug; rw [pu_n _ _ (by omega), pu_n _ _ (by omega)]
  have ep : ∀ i, i < A 38 → pSlug A c i = A i := fun i hi => by unfold pSlug; rw [pu_n _ _ (by omega), pu_n _ _ (by omega)]
  have en : pSlug A c (14 + A 39) = c := by unfold pSlug; rw [pu_n _ _ (by omega), pu_s]
  by_cases hx : x = c
  · subst hx
    rw [if_pos rfl]
    exact gOf_slug (j := A 39) (by omega) en
  · rw [if_neg hx]
    rcases gOf_cases A x with ⟨h1, j, hj, h2⟩ | ⟨hs, i, h1, hi, h2⟩ | ⟨h1, h2, h3⟩
    · rw [h1]
      exact gOf_slug (j := j) (by omega) (by rw [es j hj]; exact h2)
    · rw [h1]
      refine gOf_peg (fun j hj => ?_) (by rw [e38]; omega) (by rw [ep i hi]; exact h2) (fun j hj q => ?_)
      · rw [e39] at hj
        by_cases e : j = A 39
        · subst e; rw [en]; exact fun z => hx z.symm
        · rw [es j (by omega)]; exact hs j (by omega)
      · rw [e38] at hj
        rw [ep j hj] at q
        exact w9 j i hj hi (by rw [q, h2])
    · rw [h1]
      refine gOf_none (fun j hj => ?_) (fun i hi => ?_)
      · rw [e39] at hj
        by_cases e : j = A 39
        · subst e; rw [en]; exact fun z => hx z.symm
        · rw [es j (by omega)]; exact h2 j (by omega)
      · rw [e38] at hi
        rw [ep i hi]
        exact h3 i hi
theorem WFs_pSlug {A : Pg} {c : Nat} (hW : WFs A) (h4 : A 39 < 4) (hf : gOf A c = 0) (hc : okc c) : WFs (pSlug A c) := by
  obtain ⟨w1, w2, w3, w4, w5, w6, w7, w8, w9, w10, w11⟩ := hW
  obtain ⟨f1, f2⟩ := gOf_free hf
  have e39 : pSlug A c 39 = A 39 + 1 := by unfold pSlug; rw [pu_s]
  have eo : ∀ j, j ≠ 39 → j ≠ 14 + A 39 → pSlug A c j = A j := fun j h1 h2 => by unfold pSlug; rw [pu_n _ _ h1, pu_n _ _ h2]
  have e38 := eo 38 (by omega) (by omega)
  have e40 := eo 40 (by omega) (by omega)
  have e41 := eo 41 (by omega) (by omega)
  have en : pSlug A c (14 + A 39) = c := by unfold pSlug; rw [pu_n _ _ (by omega), pu_s]
  refine ⟨by omega, by omega, by omega, by omega, fun i hi => ?_, fun i hi => ?_, fun i hi => ?_, fun i hi => ?_, fun i j hi hj => ?_, fun i j hi hj => ?_, fun i j hi hj => ?_⟩
  · rw [e38] at hi; rw [eo i (by omega) (by omega), eo (7 + i) (by omega) (by omega)]; exact w5 i hi
  · rw [e39] at hi
    by_cases e : i = A 39
    · subst e; rw [en]; exact hc
    · rw [eo _ (by omega) (by omega)]; exact w6 i (by omega)
  · rw [e41] at hi; rw [eo _ (by omega) (by omega), eo _ (by omega) (by omega)]; exact w7 i hi
  · rw [e40] at hi; rw [eo _ (by omega) (by omega), eo _ (by omega) (by omega)]; exact w8 i hi
  · rw [e38] at hi hj; rw [eo i (by omega) (by omega), eo j (by omega) (by omega)]; exact w9 i j hi hj
  · rw [e38] at hi
    rw [e39] at hj
    rw [eo i (by omega) (by omega)]
    by_cases e : j = A 39
    · subst e; rw [en]; exact f2 i hi
    · rw [eo _ (by omega) (by omega)]; exact w10 i j hi (by omega)
  · rw [e39] at hi hj
    intro q
    by_cases e : i = A 39
    · by_cases e' : j = A 39
      · omega
      · subst e
        rw [en, eo _ (by omega) (by omega)] at q
        exact absurd q.symm (f1 j (by omega))
    · by_cases e' : j = A 39
      · subst e'
        rw [en, eo _ (by omega) (by omega)] at q
        exact absurd q (f1 i (by omega))
      · rw [eo _ (by omega) (by omega), eo _ (by omega) (by omega)] at q
        exact w11 i j (by omega) (by omega) q
/-- a peg more -/
theorem x_addPeg {b : Nat} {A : Pg} {σ : Sg} {c k : Nat} (h : RX b A σ) (hW : WFs A) (hc : okc c) (hk : k < 4) :
    (gOf A c ≠ 0 → f_X7_addPeg b (nI c) (nI k) σ = some (-2, σ)) ∧ (gOf A c = 0 → A 38 = 7 → f_X7_addPeg b (nI c) (nI k) σ = some (-3, σ)) ∧
    (gOf A c = 0 → A 38 < 7 → Ok (f_X7_addPeg b (nI c) (nI k) σ) (fun y => y.1 = nI (A 38 + 1) ∧ RX b (pPeg A c k) y.2 ∧ Fr (slp b) σ y.2)) := by
  have hw1 := hW.1
  have hc1 := hc.1
  have e0 : ¬ f_X7_isCell (nI c) = 0 := by rw [xCell.1 ⟨c, hc, rfl⟩]; decide
  have e1 : ¬ f_X9_isRag (nI k) = 0 := by rw [xRag.1 (vp_in_nI hk (by omega))]; decide
  have e2 := x_isFree h hw1 hc
  obtain ⟨h1, h2, h3, h4, h5, h6, h7, h8, h9⟩ := id h
  refine ⟨fun hg => ?_, fun hg h7' => ?_, fun hg h7' => ?_⟩
  · unfold f_X7_addPeg
    rw [if_neg e0, if_neg e1, e2, if_neg hg]
    rfl
  · unfold f_X7_addPeg
    rw [if_neg e0, if_neg e1, e2, if_pos hg]
    simp only [Option.bind_some]
    rw [if_neg (by decide), h1, h7', if_neg (by decide)]
  · unfold f_X7_addPeg
    refine ok_f e0 (ok_f e1 (ok_be e2 ?_))
    rw [if_pos hg, h1]
    refine ok_f (by decide) (ok_t (show nI (A 38) < nI 7 from nI_lt h7' (by omega)) (ok_in (vp_in_nI h7' (by omega)) (ok_app ?_)))
    rw [nI_clamp (by omega)]
    have q2 : up2 σ (b + 1) (A 38) (nI c) b 2 = nI (A 38) := by rw [up2_cell _ _ _ (by omega)]; exact h1
    rw [q2]
    refine ok_in (vp_in_nI h7' (by omega)) (ok_app ?_)
    rw [nI_clamp (by omega)]
    have q3 : up2 (up2 σ (b + 1) (A 38) (nI c)) (b + 2) (A 38) (nI k) b 2 = nI (A 38) := by rw [up2_cell _ _ _ (by omega)]; exact q2
    rw [q3]
    refine ok_be (x_stand (by omega)) (ok_app (ok_some ?_))
    refine ⟨?_, ?_, ?_⟩
    · show up2 _ b 2 _ b 2 = _
      rw [up2_same, up2_cell _ _ _ (by omega), q3, nI_1]
    · have e38 : pPeg A c k 38 = A 38 + 1 := by unfold pPeg; rw [pu_s]
      have eo : ∀ j, j ≠ 38 → j ≠ A 38 → j ≠ 7 + A 38 → pPeg A c k j = A j := fun j a1 a2 a3 => by unfold pPeg; rw [pu_n _ _ a1, pu_n _ _ a3, pu_n _ _ a2]
      have w2 := hW.2.1
      have w3 := hW.2.2.1
      have w4 := hW.2.2.2.1
      have e39 := eo 39 (by omega) (by omega) (by omega)
      have e40 := eo 40 (by omega) (by omega) (by omega)
      have e41 := eo 41 (by omega) (by omega) (by omega)
      have en : pPeg A c k (A 38) = c := by unfold pPeg; rw [pu_n _ _ (by omega), pu_n _ _ (by omega), pu_s]
      have en2 : pPeg A c k (7 + A 38) = k := by unfold pPeg; rw [pu_n _ _ (by omega), pu_s]
      refine ⟨?_, ?_, ?_, ?_, fun i hi => ?_, fun i hi => ?_, fun i hi => ?_, fun i hi => ?_, fun x hx => ?_⟩
      · rw [e38]; simp [up2, h1]; exact nI_1 _
      · rw [e39]; simp [up2, h2]
      · rw [e41]; simp [up2, h3]
      · rw [e40]; simp [up2, h4]
      · rw [e38] at hi
        by_cases e : i = A 38
        · subst e; rw [en, en2]; simp [up2]
        · rw [eo i (by omega) (by omega) (by omega), eo (7 + i) (by omega) (by omega) (by omega)]; simp [up2, e]; exact h5 i (by omega)
      · rw [e39] at hi; rw [eo _ (by omega) (by omega) (by omega)]; simp [up2]; exact h6 i hi
      · rw [e41] at hi; rw [eo _ (by omega) (by omega) (by omega), eo _ (by omega) (by omega) (by omega)]; simp [up2]; exact h7 i hi
      · rw [e40] at hi; rw [eo _ (by omega) (by omega) (by omega), eo _ (by omega) (by omega) (by omega)]; simp [up2]; exact h8 i hi
      · rw [gOf_pPeg hW h7' hg]
        by_cases e : x = c
        · subst e; simp [up2, gI]
        · simp [up2, e]; exact h9 x hx
    · exact (((Fr.rf.up (by unfold slp; omega)).up (by unfold slp; omega)).up (by unfold slp; omega)).up (by unfold slp; omega)
/-- a slug more -/
theorem x_addSlug {b : Nat} {A : Pg} {σ : Sg} {c : Nat} (h : RX b A σ) (hW : WFs A) (hc : okc c) :
    (gOf A c ≠ 0 → f_X7_addSlug b (nI c) σ = some (-2, σ)) ∧ (gOf A c = 0 → A 39 = 4 → f_X7_addSlug b (nI c) σ = some (-3, σ)) ∧
    (gOf A c = 0 → A 39 < 4 → Ok (f_X7_addSlug b (nI c) σ) (fun y => y.1 = nI (A 39 + 1) ∧ RX b (pSlug A c) y.2 ∧ Fr (slp b) σ y.2)) := by
  have hw1 := hW.1
  have hc1 := hc.1
  have e0 : ¬ f_X7_isCell (nI c) = 0 := by rw [xCell.1 ⟨c, hc, rfl⟩]; decide
  have e2 := x_isFree h hw1 hc
  obtain ⟨h1, h2, h3, h4, h5, h6, h7, h8, h9⟩ := id h
  refine ⟨fun hg => ?_, fun hg h7' => ?_, fun hg h7' => ?_⟩
  · unfold f_X7_addSlug
    rw [if_neg e0, e2, if_neg hg]
    rfl
  · unfold f_X7_addSlug
    rw [if_neg e0, e2, if_pos hg]
    simp only [Option.bind_some]
    rw [if_neg (by decide), h2, h7', if_neg (by decide)]
  · unfold f_X7_addSlug
    refine ok_f e0 (ok_be e2 ?_)
    rw [if_pos hg, h2]
    refine ok_f (by decide) (ok_t (show nI (A 39) < nI 4 from nI_lt h7' (by omega)) (ok_in (vp_in_nI h7' (by omega)) (ok_app ?_)))
    rw [nI_clamp (by omega)]
    refine ok_be (x_stand (by omega)) (ok_app (ok_some ?_))
    have q3 : up2 (up2 σ (b + 3) (A 39) (nI c)) (b + 8) c (-2) b 4 = nI (A 39) := by rw [up2_cell _ _ _ (by omega), up2_cell _ _ _ (by omega)]; exact h2
    refine ⟨?_, ?_, ?_⟩
    · show up2 _ b 4 _ b 4 = _
      rw [up2_same, q3, nI_1]
    · have e39 : pSlug A c 39 = A 39 + 1 := by unfold pSlug; rw [pu_s]
      have w2 := hW.2.1
      have w3 := hW.2.2.1
      have w4 := hW.2.2.2.1
      have eo : ∀ j, j ≠ 39 → j ≠ 14 + A 39 → pSlug A c j = A j := fun j a1 a2 => by unfold pSlug; rw [pu_n _ _ a1, pu_n _ _ a2]
      have e38 := eo 38 (by omega) (by omega)
      have e40 := eo 40 (by omega) (by omega)
      have e41 := eo 41 (by omega) (by omega)
      have en : pSlug A c (14 + A 39) = c := by unfold pSlug; rw [pu_n _ _ (by omega), pu_s]
      refine ⟨?_, ?_, ?_, ?_, fun i hi => ?_, fun i hi => ?_, fun i hi => ?_, fun i hi => ?_, fun x hx => ?_⟩
      · rw [e38]; simp [up2, h1]
      · rw [e39]; simp [up2, h2]; exact nI_1 _
      · rw [e41]; simp [up2, h3]
      · rw [e40]; simp [up2, h4]
      · rw [e38] at hi; rw [eo i (by omega) (by omega), eo (7 + i) (by omega) (by omega)]; simp [up2]; exact h5 i hi
      · rw [e39] at hi
        by_cases e : i = A 39
        · subst e; rw [en]; simp [up2]
        · rw [eo _ (by omega) (by omega)]; simp [up2, e]; exact h6 i (by omega)
      · rw [e41] at hi; rw [eo _ (by omega) (by omega), eo _ (by omega) (by omega)]; simp [up2]; exact h7 i hi
      · rw [e40] at hi; rw [eo _ (by omega) (by omega), eo _ (by omega) (by omega)]; simp [up2]; exact h8 i hi
      · rw [gOf_pSlug hW h7' hg]
        by_cases e : x = c
        · subst e; simp [up2, gI]
        · simp [up2, e]; exact h9 x hx
    · exact ((Fr.rf.up (by unfold slp; omega)).up (by unfold slp; omega)).up (by unfold slp; omega)
