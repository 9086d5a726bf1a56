/-! pull -/
/-- what lies in a cell, told by rags -/
def gr (A : Pg) (g : Nat → Nat) (x : Nat) : Nat := if g x < 2 then g x else A (7 + (g x - 2)) + 2
theorem go_gr {A : Pg} {g : Nat → Nat} {k : Nat} {o : Nat → Bool} : ∀ n row c sp m, go (gr A g) k o n row c sp m = ((if (go g k o n row c sp m).1 = 0 then 0 else A (7 + ((go g k o n row c sp m).1 - 1)) + 1), (go g k o n row c sp m).2) := by
  intro n
  induction n with
  | zero => intro row c sp m; simp [go]
  | succ n ih =>
    intro row c sp m
    unfold go
    by_cases h1 : g (10 * row + c) = 1
    · have e : gr A g (10 * row + c) = 1 := by unfold gr; rw [h1]; rfl
      rw [if_pos e, if_pos h1]
      rfl
    · by_cases h0 : g (10 * row + c) = 0
      · have e : gr A g (10 * row + c) = 0 := by unfold gr; rw [h0]; rfl
        rw [if_neg (by omega), if_pos e, if_neg h1, if_pos h0]
        exact ih _ _ _ _
      · have e : gr A g (10 * row + c) = A (7 + (g (10 * row + c) - 2)) + 2 := by unfold gr; rw [if_neg (by omega)]
        rw [if_neg (show ¬ gr A g (10 * row + c) = 1 by omega), if_neg (show ¬ gr A g (10 * row + c) = 0 by omega), if_neg h1, if_neg h0]
        by_cases hs : sp ≤ lose k
        · rw [if_pos hs, if_pos hs, e]
          dsimp only
          rw [if_neg (show ¬ g (10 * row + c) - 1 = 0 by omega), show g (10 * row + c) - 1 - 1 = g (10 * row + c) - 2 by omega]
          rfl
        · rw [if_neg hs, if_neg hs]
          exact ih _ _ _ _
theorem wcK_gr {A B : Pg} {g g' : Nat → Nat} {k s c : Nat} (h : ∀ x, gr A g x = gr B g' x) : wcK A g k s c = wcK B g' k s c := by
  have e : gr A g = gr B g' := funext h
  have h1 := go_gr (A := A) (g := g) (k := k) (o := no) 10 0 c s 0
  have h2 := go_gr (A := B) (g := g') (k := k) (o := no) 10 0 c s 0
  rw [e, h2] at h1
  exact (congrArg Prod.fst h1).symm
/-- the page without peg i -/
def pullT (A : Pg) (i t : Nat) : Pg := fun k => if (i ≤ k ∧ k < i + t) ∨ (7 + i ≤ k ∧ k < 7 + i + t) then A (k + 1) else A k
def pullP (A : Pg) (i : Nat) : Pg := pu (pullT A i (A 38 - 1 - i)) 38 (A 38 - 1)
def sk (i j : Nat) : Nat := if j < i then j else j + 1
theorem pullP_peg {A : Pg} {i j : Nat} (h7 : A 38 ≤ 7) (hj : j < A 38 - 1) : pullP A i j = A (sk i j) ∧ pullP A i (7 + j) = A (7 + sk i j) := by
  unfold pullP pullT sk
  rw [pu_n _ _ (by omega), pu_n _ _ (by omega)]
  by_cases h : j < i
  · rw [if_pos h, if_neg (by omega), if_neg (by omega)]
    exact ⟨rfl, rfl⟩
  · rw [if_neg h, if_pos (by omega), if_pos (by omega)]
    exact ⟨rfl, rfl⟩
theorem pullP_o {A : Pg} {i k : Nat} (hi : i < A 38) (h7 : A 38 ≤ 7) (hk : (14 ≤ k ∧ k < 38) ∨ 39 ≤ k) : pullP A i k = A k := by
  unfold pullP pullT
  rw [pu_n _ _ (by omega), if_neg (by omega)]
theorem pullP_38 (A : Pg) (i : Nat) : pullP A i 38 = A 38 - 1 := pu_s _ _ _
theorem sk_lt {i j n : Nat} (hj : j < n - 1) : sk i j < n ∧ sk i j ≠ i := by
  unfold sk
  split <;> omega
theorem sk_inj {i j l : Nat} (h : sk i j = sk i l) : j = l := by
  unfold sk at h
  split at h <;> split at h <;> omega
theorem sk_of {i j n : Nat} (hi : i < n) (hj : j < n) (hne : j ≠ i) : ∃ l, l < n - 1 ∧ sk i l = j := by
  by_cases h : j < i
  · exact ⟨j, by omega, by unfold sk; rw [if_pos h]⟩
  · exact ⟨j - 1, by omega, by unfold sk; rw [if_neg (by omega)]; omega⟩
theorem WF_pullP {A : Pg} {i : Nat} (hW : WF A) (hi : i < A 38) : WF (pullP A i) := by
  obtain ⟨⟨w1, w2, w3, w4, w5, w6, w7, w8, w9, w10, w11⟩, hw⟩ := hW
  have e38 := pullP_38 A i
  have eo : ∀ k, (14 ≤ k ∧ k < 38) ∨ 39 ≤ k → pullP A i k = A k := fun k hk => pullP_o hi w1 hk
  have ep : ∀ j, j < A 38 - 1 → pullP A i j = A (sk i j) ∧ pullP A i (7 + j) = A (7 + sk i j) := fun j hj => pullP_peg w1 hj
  refine ⟨⟨by omega, by rw [eo _ (by omega)]; exact w2, by rw [eo _ (by omega)]; exact w3, by rw [eo _ (by omega)]; exact w4, fun j hj => ?_, fun j hj => ?_, fun j hj => ?_, fun j hj => ?_, fun j l hj hl => ?_, fun j l hj hl => ?_, fun j l hj hl => ?_⟩, fun j hj => ?_⟩
  · rw [e38] at hj; rw [(ep j hj).1, (ep j hj).2]; exact w5 _ (sk_lt hj).1
  · rw [eo _ (by omega)] at hj; rw [eo _ (by omega)]; exact w6 j hj
  · rw [eo _ (by omega)] at hj; rw [eo _ (by omega), eo _ (by omega)]; exact w7 j hj
  · rw [eo _ (by omega)] at hj; rw [eo _ (by omega), eo _ (by omega)]; exact w8 j hj
  · rw [e38] at hj hl; rw [(ep j hj).1, (ep l hl).1]; exact fun q => sk_inj (w9 _ _ (sk_lt hj).1 (sk_lt hl).1 q)
  · rw [e38] at hj; rw [eo _ (by omega)] at hl; rw [(ep j hj).1, eo _ (by omega)]; exact w10 _ _ (sk_lt hj).1 hl
  · rw [eo _ (by omega)] at hj hl; rw [eo _ (by omega), eo _ (by omega)]; exact w11 j l hj hl
  · rw [eo _ (by omega)] at hj; rw [eo _ (by omega), eo _ (by omega)]; exact hw j hj
/-- the class's hidden peg and the reference's shorter page tell the same -/
theorem gr_pull {A : Pg} {i : Nat} (hW : WFs A) (hi : i < A 38) (x : Nat) : gr (pullP A i) (gOf (pullP A i)) x = gr A (fun x => if x = A i then 0 else gOf A x) x := by
  obtain ⟨w1, w2, w3, w4, w5, w6, w7, w8, w9, w10, w11⟩ := hW
  have e38 := pullP_38 A i
  have eo : ∀ k, (14 ≤ k ∧ k < 38) ∨ 39 ≤ k → pullP A i k = A k := fun k hk => pullP_o hi w1 hk
  have ep : ∀ j, j < A 38 - 1 → pullP A i j = A (sk i j) ∧ pullP A i (7 + j) = A (7 + sk i j) := fun j hj => pullP_peg w1 hj
  have e39 := eo 39 (by omega)
  rcases gOf_cases A x with ⟨h1, j, hj, h2⟩ | ⟨hs, j, h1, hj, h2⟩ | ⟨h1, h2, h3⟩
  · have hx : ¬ x = A i := fun q => w10 i j hi hj (by rw [← q, h2])
    have hB : gOf (pullP A i) x = 1 := gOf_slug (j := j) (by omega) (by rw [eo _ (by omega)]; exact h2)
    unfold gr
    dsimp +instances only
    rw [hB, if_neg hx, h1]
    rfl
  · by_cases hji : j = i
    · subst hji
      have hB : gOf (pullP A j) x = 0 := by
        refine gOf_none (fun l hl => ?_) (fun l hl => ?_)
        · rw [e39] at hl; rw [eo _ (by omega)]; exact hs l hl
        · rw [e38] at hl; rw [(ep l hl).1]
          intro q
          exact (sk_lt hl).2 (w9 _ _ (sk_lt hl).1 hj (by rw [q, h2]))
      unfold gr
      dsimp +instances only
      rw [hB, if_pos h2.symm]
      rfl
    · obtain ⟨l, hl, el⟩ := sk_of hi hj hji
      have hx : ¬ x = A i := fun q => hji (w9 j i hj hi (by rw [h2, q]))
      have hB : gOf (pullP A i) x = l + 2 := by
        refine gOf_peg (fun q hq => ?_) (by omega) (by rw [(ep l hl).1, el]; exact h2) (fun q hq z => ?_)
        · rw [e39] at hq; rw [eo _ (by omega)]; exact hs q hq
        · rw [e38] at hq
          rw [(ep q hq).1] at z
          exact sk_inj (by rw [el]; exact w9 _ _ (sk_lt hq).1 hj (by rw [z, h2]))
      unfold gr
      dsimp +instances only
      rw [hB, if_neg hx, h1, if_neg (by omega), if_neg (by omega), Nat.add_sub_cancel, Nat.add_sub_cancel, (ep l hl).2, el]
  · have hx : ¬ x = A i := fun q => h3 i hi q.symm
    have hB : gOf (pullP A i) x = 0 := by
      refine gOf_none (fun l hl => ?_) (fun l hl => ?_)
      · rw [e39] at hl; rw [eo _ (by omega)]; exact h2 l hl
      · rw [e38] at hl; rw [(ep l hl).1]; exact h3 _ (sk_lt hl).1
    unfold gr
    dsimp +instances only
    rw [hB, if_neg hx, h1]
    rfl
theorem cnt_congr {P Q : Nat → Bool} {n : Nat} (h : ∀ i, i < n → P i = Q i) : cnt P n = cnt Q n := by
  induction n with
  | zero => rfl
  | succ n ih =>
    unfold cnt
    rw [ih (fun i hi => h i (by omega)), h n (by omega)]
theorem vw_pull {A : Pg} {i r : Nat} (hW : WF A) (hi : i < A 38) : vw (pullP A i) (gOf (pullP A i)) r = vw A (fun x => if x = A i then 0 else gOf A x) r := by
  have w1 := hW.1.1
  have w3 := hW.1.2.2.1
  have eo : ∀ k, (14 ≤ k ∧ k < 38) ∨ 39 ≤ k → pullP A i k = A k := fun k hk => pullP_o hi w1 hk
  unfold vw
  rw [eo 40 (by omega)]
  refine cnt_congr (fun j hj => ?_)
  have hw := hW.1.2.2.2.2.2.2.2.1 j hj
  have : Wn (pullP A i) (gOf (pullP A i)) j = Wn A (fun x => if x = A i then 0 else gOf A x) j := by
    show wcK _ _ (pullP A i (18 + pullP A i (26 + j))) (pullP A i (22 + pullP A i (26 + j))) (pullP A i (32 + j)) = wcK A _ (A (18 + A (26 + j))) (A (22 + A (26 + j))) (A (32 + j))
    rw [eo (26 + j) (by omega), eo (32 + j) (by omega), eo (18 + A (26 + j)) (by omega), eo (22 + A (26 + j)) (by omega)]
    exact wcK_gr (gr_pull hW.1 hi)
  rw [this]
theorem x_seekNeedless {A : Pg} {σ : Sg} {r : Nat} (h : RX 13 A σ) (hW : WF A) (hr : r < 4) : Ok (f_X0_seekNeedlessPeg (nI r) σ) (Adv A σ (mo (fun _ => true) (fun i => vw A (fun x => if x = A i then 0 else gOf A x) r) (vw A (gOf A) r + 1) (A 38))) := by
  have w1 := hW.1.1
  have w3 := hW.1.2.2.1
  generalize hw0 : vw A (gOf A) r = w0
  have hw6 : w0 ≤ 6 := by rw [← hw0]; exact vw_le w3
  have hv6' : ∀ i, vw A (fun x => if x = A i then 0 else gOf A x) r ≤ 6 := fun i => vw_le w3
  generalize hV : (fun i => vw A (fun x => if x = A i then 0 else gOf A x) r) = V
  have hV' : ∀ i, vw A (fun x => if x = A i then 0 else gOf A x) r = V i := fun i => by rw [← hV]
  have hv6 : ∀ x, V x ≤ 6 := fun x => by rw [← hV']; exact hv6' x
  unfold f_X0_seekNeedlessPeg
  obtain ⟨m, σ0, f1, f2, f3⟩ := x_vw (r := r) h.g hW gOf_lt2 hr
  rw [f1, Option.bind_some]
  dsimp +instances only
  rw [f2, hw0]
  refine ok_app ?_
  have hA0 : Adv A σ (0, w0 + 1) (f_X0_seekFrom (nI w0) σ0) := by
    unfold f_X0_seekFrom
    simp only [app]
    have hF : Fr (fun q => q = 25) σ0 (up2 (up2 σ0 25 2 (-4)) 25 3 (nI w0)) := up25
    refine ⟨(Same.rf.c13 f3).a25 hF, (h.g.cr f3).rx.fr hF (fun k hk => by omega), by simp [up2]; rfl, ?_⟩
    rw [up2_same]
    exact (nI_pred w0).symm
  generalize f_X0_seekFrom (nI w0) σ0 = σ1 at hA0
  refine ok_bind (Q := fun e => Adv A σ (mo (fun _ => true) V (w0 + 1) (A 38)) e.2) ?_ (fun e he => ok_some he)
  refine wh_0 (P := fun k (s : Int32 × Sg) => s.1 = nI k ∧ Adv A σ (mo (fun _ => true) V (w0 + 1) k) s.2) (A 38) (by omega) ⟨rfl, hA0⟩ ?_
  rintro k ⟨x, s⟩ hk ⟨e1, hA⟩
  dsimp at e1 hA
  subst e1
  unfold b_X0_seekNeedlessPeg_17
  dsimp +instances only
  obtain ⟨hs, hX, h2, h3⟩ := hA
  rw [hX.1]
  by_cases hlt : k < A 38
  · left
    refine ⟨hlt, ok_f (nnle hlt (by omega)) ?_⟩
    obtain ⟨s1, g1, g2, g3⟩ := x_hidePeg hX hW.1 hlt
    obtain ⟨m2, s2, u1, u2, u3⟩ := x_vw (r := r) g2 hW (fun y => by
      split
      · omega
      · exact gOf_lt) hr
    rw [g1, Option.bind_some, u1, Option.bind_some]
    refine ok_app ?_
    dsimp only
    rw [u2, hV']
    have k25 : s2 25 = s 25 := by rw [u3 25 (by unfold crt; omega), g3 25 (by unfold slp; omega)]
    have hm := mo_le (e := fun _ => true) (v := V) (n0 := w0 + 1) (N := 6) (by omega) hv6 k
    obtain ⟨o1, o2, o3⟩ := x_offer (s := s2) (p := mo (fun _ => true) V (w0 + 1) k) (c := k) (v := V k) (by rw [k25]; exact h2) (by rw [k25]; exact h3) (by have := hv6 k; omega) (by omega)
    have hX2 : RXg 13 A (fun x => if x = A k then 0 else gOf A x) (f_X0_offerMost (nI k) (nI (V k)) s2) := (g2.cr u3).keep (fun l hl => o3 _ (by omega))
    obtain ⟨s4, v1, v2, v3⟩ := x_showPeg hX2 hW.1 hlt
    rw [v1]
    refine ok_some ⟨_, rfl, nI_1 _, (((hs.s13 g3).c13 u3).a25 o3).s13 v3, v2, ?_, ?_⟩
    · dsimp only
      rw [v3 25 (by unfold slp; omega), o1]
      rfl
    · dsimp only
      rw [v3 25 (by unfold slp; omega), o2]
      rfl
  · right
    obtain rfl : k = A 38 := by omega
    exact ok_t (nle (Nat.le_refl _) (by omega)) (ok_some ⟨_, rfl, hs, hX, h2, h3⟩)
theorem pullT_s {A : Pg} {i t : Nat} (k : Nat) : pullT A i (t + 1) k = if k = i + t ∨ k = 7 + i + t then A (k + 1) else pullT A i t k := by
  unfold pullT
  by_cases h : k = i + t ∨ k = 7 + i + t
  · rw [if_pos h, if_pos (by omega)]
  · rw [if_neg h]
    by_cases h2 : (i ≤ k ∧ k < i + t) ∨ (7 + i ≤ k ∧ k < 7 + i + t)
    · rw [if_pos h2, if_pos (by omega)]
    · rw [if_neg h2, if_neg (by omega)]
theorem m_pullT {A : Pg} {s0 : Sg} {i : Nat} (hM : RM 0 A s0) (hM1 : RM 164 A s0) (h7 : A 38 ≤ 7) (hi : i < A 38) : Ok (wh b_X10_pull_62 4096 ((nI i + (1 : Int32)), s0)) (fun e => RM 164 (pullT A i (A 38 - 1 - i)) e.2 ∧ Agr (Pgp 164) s0 e.2) := by
  rw [nI_1]
  refine wh_0 (P := fun t (s : Int32 × Sg) => s.1 = nI (i + 1 + t) ∧ RM 164 (pullT A i t) s.2 ∧ Agr (Pgp 164) s0 s.2) (A 38 - 1 - i) (by omega) ⟨rfl, ?_, Agr.rf⟩ ?_
  · intro k hk
    have : pullT A i 0 k = A k := by unfold pullT; rw [if_neg (by omega)]
    rw [this]
    exact hM1 k hk
  · rintro t ⟨x, s⟩ ht ⟨e1, hR, ha⟩
    dsimp at e1 hR ha
    subst e1
    have hM' : RM 0 A s := hM.ag ha (fun j z => by unfold Pgp at z; omega)
    unfold b_X10_pull_62
    dsimp +instances only
    rw [c38', zrm hM' (by omega)]
    by_cases hlt : t < A 38 - 1 - i
    · left
      have a1 : (164 : Int32) + nI (i + 1 + t) - 1 = nI (164 + (i + t)) := by
        rw [show (164 : Int32) = nI 164 from rfl, nI_add, show 164 + (i + 1 + t) = 164 + (i + t) + 1 by omega, nI_pred]
      have a2 : (171 : Int32) + nI (i + 1 + t) - 1 = nI (164 + (7 + i + t)) := by
        rw [show (171 : Int32) = nI 171 from rfl, nI_add, show 171 + (i + 1 + t) = 164 + (7 + i + t) + 1 by omega, nI_pred]
      have a3 : (7 : Int32) + nI (i + 1 + t) = nI (7 + (i + 1 + t)) := nI_add 7 _
      refine ⟨hlt, ok_f (nnle (by omega) (by omega)) ?_⟩
      rw [a1, a2, a3]
      refine ok_in (vp_in_nI (by omega) (by omega)) (ok_in (vp_in_nI (by omega) (by omega)) (ok_app (ok_in (vp_in_nI (by omega) (by omega)) (ok_in (vp_in_nI (by omega) (by omega)) ?_))))
      rw [nI_clamp (by omega), nI_clamp (by omega), nI_clamp (by omega), nI_clamp (by omega), up2_slot _ _ (show 7 + (i + 1 + t) ≠ 164 + (i + t) by omega), zrm hM' (by omega), zrm hM' (by omega)]
      refine ok_some ⟨_, rfl, nI_1 _, fun k hk => ?_, (ha.up (by unfold Pgp; omega)).up (by unfold Pgp; omega)⟩
      dsimp only
      rw [pullT_s]
      by_cases k1 : k = 7 + i + t
      · subst k1
        rw [up2_same, if_pos (Or.inr rfl), show 7 + (i + 1 + t) = 7 + i + t + 1 by omega]
      · rw [up2_slot _ _ (by omega)]
        by_cases k2 : k = i + t
        · subst k2
          rw [up2_same, if_pos (Or.inl rfl), show i + 1 + t = i + t + 1 by omega]
        · rw [up2_slot _ _ (by omega), if_neg (by omega)]
          exact hR k hk
    · right
      have e : t = A 38 - 1 - i := by omega
      refine ok_t (nle (by omega) (by omega)) (ok_some ⟨_, rfl, ?_, ha⟩)
      rw [← e]
      exact hR
