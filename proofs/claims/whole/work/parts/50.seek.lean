/-! searches: place, move -/
/-- a search for the most: (1 + what is best so far, or 0; 1 + its number) -/
def st (p : Nat × Nat) (c v : Nat) : Nat × Nat := if p.2 < v + 1 then (c + 1, v + 1) else p
def mo (e : Nat → Bool) (v : Nat → Nat) (n0 : Nat) : Nat → Nat × Nat
  | 0 => (0, n0)
  | x + 1 => if e x = true then st (mo e v n0 x) x (v x) else mo e v n0 x
theorem mo_le {e : Nat → Bool} {v : Nat → Nat} {n0 N : Nat} (h0 : n0 ≤ N + 1) (hv : ∀ x, v x ≤ N) : ∀ n, (mo e v n0 n).2 ≤ N + 1 ∧ (mo e v n0 n).1 ≤ n := by
  intro n
  induction n with
  | zero => exact ⟨h0, Nat.le_refl _⟩
  | succ n ih =>
    have := hv n
    unfold mo
    split
    · unfold st
      split
      · exact ⟨by dsimp only; omega, Nat.le_refl _⟩
      · exact ⟨ih.1, by omega⟩
    · exact ⟨ih.1, by omega⟩
theorem mo_none {e : Nat → Bool} {v : Nat → Nat} : ∀ n, (mo e v 0 n).1 = 0 → (mo e v 0 n).2 = 0 ∧ ∀ x, x < n → e x = false := by
  intro n
  induction n with
  | zero => exact fun _ => ⟨rfl, fun x hx => absurd hx (by omega)⟩
  | succ n ih =>
    intro h
    unfold mo at h ⊢
    by_cases he : e n = true
    · rw [if_pos he] at h ⊢
      unfold st at h
      by_cases hp : (mo e v 0 n).2 < v n + 1
      · rw [if_pos hp] at h
        dsimp at h
        omega
      · rw [if_neg hp] at h
        have := (ih h).1
        omega
    · rw [if_neg he] at h ⊢
      obtain ⟨h1, h2⟩ := ih h
      refine ⟨h1, fun x hx => ?_⟩
      by_cases z : x = n
      · rw [z]; simpa using he
      · exact h2 x (by omega)
theorem mo_skip {e : Nat → Bool} {v : Nat → Nat} {n0 n : Nat} (h : e n = false) : mo e v n0 (n + 1) = mo e v n0 n := by
  conv => lhs; unfold mo
  simp [h]
theorem le_pred {v n : Nat} (hv : v < 2 ^ 30) (hn : n < 2 ^ 30) : nI v ≤ nI n - 1 ↔ ¬ n < v + 1 := by
  rcases n with _ | n
  · constructor
    · intro h
      exfalso
      rw [Int32.le_iff_toInt_le, nI_toInt (by omega)] at h
      have : (nI 0 - 1 : Int32).toInt = -1 := by decide
      omega
    · intro h; omega
  · rw [show nI (n + 1) - 1 = nI n from nI_pred n, Int32.le_iff_toInt_le, nI_toInt (by omega), nI_toInt (by omega)]
    omega
theorem up25 {s : Sg} {i j : Nat} {x y : Int32} : Fr (fun q => q = 25) s (up2 (up2 s 25 i x) 25 j y) := fun c hc => by rw [up2_cell _ _ _ hc, up2_cell _ _ _ hc]
theorem x_offer {s : Sg} {p : Nat × Nat} {c v : Nat} (h2 : s 25 2 = rI p.1) (h3 : s 25 3 = nI p.2 - 1) (hv : v < 2 ^ 30) (hp : p.2 < 2 ^ 30) : (f_X0_offerMost (nI c) (nI v) s) 25 2 = rI (st p c v).1 ∧ (f_X0_offerMost (nI c) (nI v) s) 25 3 = nI (st p c v).2 - 1 ∧ Fr (fun q => q = 25) s (f_X0_offerMost (nI c) (nI v) s) := by
  unfold f_X0_offerMost st
  rw [h3]
  by_cases z : p.2 < v + 1
  · rw [if_neg (fun q => (le_pred hv hp).mp q z), if_pos z]
    refine ⟨by simp [app, up2]; rfl, ?_, up25⟩
    simp only [app]
    rw [up2_same]
    exact (nI_pred v).symm
  · rw [if_pos ((le_pred hv hp).mpr z), if_neg z]
    exact ⟨h2, h3, Fr.rf⟩
/-- how many suits a rag wins -/
def vw (B : Pg) (g : Nat → Nat) (r : Nat) : Nat := cnt (fun j => decide (Wn B g j = r + 1)) (B 40)
theorem vw_le {B : Pg} {g : Nat → Nat} {r : Nat} (h : B 40 ≤ 6) : vw B g r ≤ 6 := Nat.le_trans (cnt_le _ _) h
theorem x_vw {b r : Nat} {A : Pg} {g : Nat → Nat} {σ : Sg} (h : RXg b A g σ) (hW : WF A) (hg : ∀ x, g x < A 38 + 2) (hr : r < 4) : ∃ m σ', f_X2_wonBy b (nI r) σ = some (m, σ') ∧ f_J6_bitCount_0f7a4 m = nI (vw A g r) ∧ Fr (crt b) σ σ' := by
  obtain ⟨⟨m, σ'⟩, e, q1, q2⟩ := x_wonBy h hW hg hr
  dsimp at q1 q2
  have w3 := hW.1.2.2.1
  refine ⟨m, σ', e, ?_, q2⟩
  rw [q1, x_bc _ (bm_1024 _ (by omega)), pop_bm _ _ (by omega)]
  rfl
theorem m_vw {p r : Nat} {A : Pg} {σ : Sg} (hM : RM p A σ) (hp : p + 41 ≤ 205) (hW : WF A) (hr : r < 4) : ∃ m σ', f_X10_winsOn (nI p) (nI r) σ = some (m, σ') ∧ f_X10_bitsOf m = some (nI (vw A (gOf A) r)) ∧ FrM σ σ' := by
  obtain ⟨⟨m, σ'⟩, e, q1, q2⟩ := m_wins hM hp hW hr
  dsimp at q1 q2
  have w3 := hW.1.2.2.1
  refine ⟨m, σ', e, ?_, q2⟩
  rw [q1, m_bits _ (bm_1024 _ (by omega)), pop_bm _ _ (by omega)]
  rfl
/-- a free cell -/
def fE (A : Pg) (x : Nat) : Bool := decide (x < 98) && decide (x % 10 < 8) && decide (gOf A x = 0)
theorem fE_iff {A : Pg} {x : Nat} : fE A x = true ↔ okc x ∧ gOf A x = 0 := by
  unfold fE okc
  simp
theorem pig : ∀ (n : Nat) (f : Nat → Nat) (L : List Nat), L.Nodup → n < L.length → ∃ x, x ∈ L ∧ ∀ i, i < n → f i ≠ x := by
  intro n
  induction n with
  | zero =>
    intro f L _ h
    match L, h with
    | a :: _, _ => exact ⟨a, by simp, fun i hi => absurd hi (by omega)⟩
  | succ n ih =>
    intro f L hL h
    obtain ⟨x, h1, h2⟩ := ih f (L.erase (f n)) (hL.erase _) (by rw [List.length_erase]; split <;> omega)
    rw [hL.mem_erase_iff] at h1
    refine ⟨x, h1.2, fun i hi => ?_⟩
    by_cases e : i = n
    · rw [e]; exact fun z => h1.1 z.symm
    · exact h2 i (by omega)
theorem free_cell {A : Pg} (h : A 38 + A 39 ≤ 10) : ∃ x, x < 98 ∧ fE A x = true := by
  obtain ⟨x, h1, h2⟩ := pig (A 38 + A 39) (fun i => if i < A 38 then A i else A (14 + (i - A 38))) [0, 1, 2, 3, 4, 5, 6, 7, 10, 11, 12] (by decide) (by simp; omega)
  have hx : okc x := by
    unfold okc
    simp at h1
    omega
  refine ⟨x, hx.1, fE_iff.mpr ⟨hx, gOf_none (fun j hj => ?_) (fun i hi => ?_)⟩⟩
  · have := h2 (A 38 + j) (by omega)
    rw [if_neg (by omega), show 14 + (A 38 + j - A 38) = 14 + j by omega] at this
    exact this
  · have := h2 i (by omega)
    rw [if_pos hi] at this
    exact this
theorem cutP_pPeg {A : Pg} {c k : Nat} (hW : WFs A) (h7 : A 38 < 7) : Eqp (cutP (pPeg A c k) (A 38)) A := by
  have e38 : cutP (pPeg A c k) (A 38) 38 = A 38 := pu_s _ _ _
  have eo : ∀ j, j ≠ 38 → j ≠ A 38 → j ≠ 7 + A 38 → cutP (pPeg A c k) (A 38) j = A j := fun j a1 a2 a3 => by
    unfold cutP pPeg
    rw [pu_n _ _ a1, pu_n _ _ a1, pu_n _ _ a3, pu_n _ _ a2]
  have w2 := hW.2.1
  have w3 := hW.2.2.1
  have w4 := hW.2.2.2.1
  have e39 := eo 39 (by omega) (by omega) (by omega)
  have e40 := eo 40 (by omega) (by omega) (by omega)
  have e41 := eo 41 (by omega) (by omega) (by omega)
  refine ⟨e38, e39, e40, e41, fun i hi => ?_, fun i hi => ?_, fun i hi => ?_, fun i hi => ?_⟩
  · rw [e38] at hi
    exact ⟨eo _ (by omega) (by omega) (by omega), eo _ (by omega) (by omega) (by omega)⟩
  · exact eo _ (by omega) (by omega) (by omega)
  · exact ⟨eo _ (by omega) (by omega) (by omega), eo _ (by omega) (by omega) (by omega)⟩
  · exact ⟨eo _ (by omega) (by omega) (by omega), eo _ (by omega) (by omega) (by omega)⟩
theorem WF_pPeg {A : Pg} {c k : Nat} (hW : WF A) (h7 : A 38 < 7) (hf : gOf A c = 0) (hc : okc c) (hk : k < 4) : WF (pPeg A c k) := by
  have w3 := hW.1.2.2.1
  have eo : ∀ j, j ≠ 38 → j ≠ A 38 → j ≠ 7 + A 38 → pPeg A c k j = A j := fun j a1 a2 a3 => by
    unfold pPeg
    rw [pu_n _ _ a1, pu_n _ _ a3, pu_n _ _ a2]
  refine ⟨WFs_pPeg hW.1 h7 hf hc hk, fun i hi => ?_⟩
  rw [eo 40 (by omega) (by omega) (by omega)] at hi
  rw [eo _ (by omega) (by omega) (by omega), eo _ (by omega) (by omega) (by omega)]
  exact hW.2 i hi
/-- the class's trial slope and advice in a search -/
def Adv (A : Pg) (σ : Sg) (p : Nat × Nat) (s : Sg) : Prop := Same σ s ∧ RX 13 A s ∧ s 25 2 = rI p.1 ∧ s 25 3 = nI p.2 - 1
theorem Same.s13 {σ s s' : Sg} (h : Same σ s) (hf : Fr (slp 13) s s') : Same σ s' := h.tr (Same.fr hf (fun c hc => by unfold slp at hc; unfold scX; omega))
theorem Same.c13 {σ s s' : Sg} (h : Same σ s) (hf : Fr (crt 13) s s') : Same σ s' := h.tr (sx hf (Or.inr rfl))
theorem Same.a25 {σ s s' : Sg} (h : Same σ s) (hf : Fr (fun q => q = 25) s s') : Same σ s' := h.tr (Same.fr hf (fun c hc => by unfold scX; omega))
theorem x_seekPeg {A : Pg} {σ : Sg} {r : Nat} (h : RX 13 A σ) (hW : WF A) (h7 : A 38 < 7) (hr : r < 4) : Ok (f_X0_seekNewPeg (nI r) σ) (Adv A σ (mo (fE A) (fun x => vw (pPeg A x r) (gOf (pPeg A x r)) r) 0 100)) := by
  have w3 := hW.1.2.2.1
  have e40 : ∀ x, pPeg A x r 40 = A 40 := fun x => by unfold pPeg; rw [pu_n _ _ (by omega), pu_n _ _ (by omega), pu_n _ _ (by omega)]
  have hv : ∀ x, vw (pPeg A x r) (gOf (pPeg A x r)) r ≤ 6 := fun x => vw_le (by rw [e40]; exact w3)
  generalize hV : (fun x => vw (pPeg A x r) (gOf (pPeg A x r)) r) = V
  have hV' : ∀ x, vw (pPeg A x r) (gOf (pPeg A x r)) r = V x := fun x => by rw [← hV]
  have hv6 : ∀ x, V x ≤ 6 := fun x => by rw [← hV']; exact hv x
  unfold f_X0_seekNewPeg
  refine ok_app ?_
  have hA0 : Adv A σ (0, 0) (f_X0_seekFrom (-1) σ) := by
    unfold f_X0_seekFrom
    simp only [app]
    have hF : Fr (fun q => q = 25) σ (up2 (up2 σ 25 2 (-4)) 25 3 (-1)) := up25
    exact ⟨Same.rf.a25 hF, h.fr hF (fun k hk => by omega), by simp [up2]; rfl, by simp [up2]; rfl⟩
  generalize f_X0_seekFrom (-1) σ = σ1 at hA0
  refine ok_app ?_
  rw [hA0.2.1.1]
  refine ok_bind (Q := fun e => Adv A σ (mo (fE A) V 0 100) e.2) ?_ (fun e he => ok_some he)
  refine wh_0 (P := fun k (s : Int32 × Sg) => s.1 = nI k ∧ Adv A σ (mo (fE A) V 0 k) s.2) 100 (by omega) ⟨rfl, hA0⟩ ?_
  rintro k ⟨x, s⟩ hk ⟨e1, hA⟩
  dsimp at e1 hA
  subst e1
  unfold b_X0_seekNewPeg_15
  dsimp +instances only
  by_cases hlt : k < 100
  · left
    refine ⟨hlt, ok_f (show ¬ nI 100 ≤ nI k from nnle hlt (by omega)) ?_⟩
    obtain ⟨hs, hX, h2, h3⟩ := hA
    obtain ⟨⟨y, s1⟩, f1, f2, f3, f4⟩ := x_drv (a := nI k) (r := nI r) hX hW.1
    dsimp at f2 f3 f4
    refine ok_be f1 ?_
    dsimp +instances only
    refine ok_bind (Q := Adv A σ (mo (fE A) V 0 (k + 1))) ?_ (fun s' h' => ok_some ⟨_, rfl, nI_1 _, h'⟩)
    by_cases hE : fE A k = true
    · obtain ⟨hc, hg⟩ := fE_iff.mp hE
      rw [drv_at hc hr, if_neg (fun z => z hg), if_neg (show ¬ A 38 = 7 by omega)] at f2 f3
      dsimp at f2 f3
      rw [f2, if_neg (show ¬ nI (A 38 + 1) ≤ 0 from nnle (a := 0) (by omega) (by omega))]
      obtain ⟨m, s2, g1, g2, g3⟩ := x_vw (r := r) f3.g (WF_pPeg hW h7 hg hc hr) gOf_lt2 hr
      refine ok_be g1 (ok_app ?_)
      dsimp only
      rw [g2, hV']
      have k25 : s2 25 = s 25 := by rw [g3 25 (by unfold crt; omega), f4 25 (by unfold slp; omega)]
      have hm := mo_le (e := fE A) (v := V) (n0 := 0) (N := 6) (by omega) hv6 k
      obtain ⟨o1, o2, o3⟩ := x_offer (s := s2) (p := mo (fE A) V 0 k) (c := k) (v := V k) (by rw [k25]; exact h2) (by rw [k25]; exact h3) (by have := hv6 k; omega) (by omega)
      have hX2 : RX 13 (pPeg A k r) (f_X0_offerMost (nI k) (nI (V k)) s2) := (f3.g.cr g3).rx.fr o3 (fun k hk => by omega)
      have e38 : pPeg A k r 38 = A 38 + 1 := by unfold pPeg; rw [pu_s]
      obtain ⟨s4, u1, u2, u3⟩ := x_cutPegs (n := A 38) hX2 (WFs_pPeg hW.1 h7 hg hc hr) (by rw [e38]; omega)
      refine ok_be u1 (ok_some ⟨(((hs.s13 f4).c13 g3).a25 o3).s13 u3, u2.eqp (cutP_pPeg hW.1 h7), ?_, ?_⟩)
      · rw [u3 25 (by unfold slp; omega), o1]
        conv => rhs; unfold mo
        rw [if_pos hE]
      · rw [u3 25 (by unfold slp; omega), o2]
        conv => rhs; unfold mo
        rw [if_pos hE]
    · have hno : (drv A (nI k) (nI r)).1 ≤ 0 ∧ (drv A (nI k) (nI r)).2 = A := by
        by_cases hc : okc k
        · rw [drv_at hc hr, if_pos (fun z => hE (fE_iff.mpr ⟨hc, z⟩))]
          exact ⟨by show (-2 : Int32) ≤ 0; decide, rfl⟩
        · rw [drv_no (fun z => by
            obtain ⟨⟨c, hc', e⟩, -⟩ := z
            have := hc'.1
            rw [nI_eq (by omega) (by omega)] at e
            exact hc (e ▸ hc'))]
          exact ⟨by show (-1 : Int32) ≤ 0; decide, rfl⟩
      rw [f2, if_pos hno.1]
      rw [hno.2] at f3
      have hE' : fE A k = false := by simpa using hE
      refine ok_some ⟨hs.s13 f4, f3, ?_, ?_⟩
      · rw [f4 25 (by unfold slp; omega), mo_skip hE']; exact h2
      · rw [f4 25 (by unfold slp; omega), mo_skip hE']; exact h3
  · right
    obtain rfl : k = 100 := by omega
    exact ok_t (by decide) (ok_some ⟨_, rfl, hA⟩)
