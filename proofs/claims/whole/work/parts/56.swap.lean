/-! swap -/
theorem pxc_v (A : Pg) (i j k : Nat) : pxc A i j k = if k = 22 + j then A (22 + i) else if k = 22 + i then A (22 + j) else if k = 18 + j then A (18 + i) else if k = 18 + i then A (18 + j) else A k := rfl
def tr (i j w : Nat) : Nat := if w = i then j else if w = j then i else w
theorem tr_lt {i j w n : Nat} (hi : i < n) (hj : j < n) (hw : w < n) : tr i j w < n := by
  unfold tr
  split
  · exact hj
  · split
    · exact hi
    · exact hw
theorem pxc_k {A : Pg} {i j w : Nat} (hi : i < 4) (hj : j < 4) (hij : i ≠ j) (hw : w < 4) : pxc A i j (18 + w) = A (18 + tr i j w) ∧ pxc A i j (22 + w) = A (22 + tr i j w) := by
  unfold tr
  rw [pxc_v, pxc_v]
  by_cases h1 : w = i
  · subst h1
    rw [if_pos rfl, if_neg (by omega), if_neg (by omega), if_neg (by omega), if_pos rfl, if_neg (by omega), if_pos rfl]
    exact ⟨rfl, rfl⟩
  · rw [if_neg h1]
    by_cases h2 : w = j
    · subst h2
      rw [if_pos rfl, if_neg (by omega), if_neg (by omega), if_pos rfl, if_pos rfl]
      exact ⟨rfl, rfl⟩
    · rw [if_neg h2, if_neg (by omega), if_neg (by omega), if_neg (by omega), if_neg (by omega), if_neg (by omega), if_neg (by omega), if_neg (by omega), if_neg (by omega)]
      exact ⟨rfl, rfl⟩
theorem pxc_o {A : Pg} {i j k : Nat} (hi : i < 4) (hj : j < 4) (hk : k < 18 ∨ 26 ≤ k) : pxc A i j k = A k := by
  rw [pxc_v, if_neg (by omega), if_neg (by omega), if_neg (by omega), if_neg (by omega)]
theorem tr_tr {i j w : Nat} : tr i j (tr i j w) = w := by
  unfold tr
  by_cases h1 : w = i
  · rw [if_pos h1]
    by_cases h2 : j = i
    · rw [if_pos h2, h1, h2]
    · rw [if_neg h2, if_pos rfl, h1]
  · rw [if_neg h1]
    by_cases h2 : w = j
    · rw [if_pos h2, if_pos rfl, h2]
    · rw [if_neg h2, if_neg h1, if_neg h2]
theorem pxc_pxc {A : Pg} {i j : Nat} (hi : i < 4) (hj : j < 4) (hij : i ≠ j) : pxc (pxc A i j) i j = A := by
  funext k
  by_cases h : k < 18 ∨ 26 ≤ k
  · rw [pxc_o hi hj h, pxc_o hi hj h]
  · by_cases h2 : k < 22
    · obtain ⟨w, rfl⟩ : ∃ w, k = 18 + w := ⟨k - 18, by omega⟩
      have := tr_lt hi hj (show w < 4 by omega)
      rw [(pxc_k hi hj hij (by omega)).1, (pxc_k hi hj hij this).1, tr_tr]
    · obtain ⟨w, rfl⟩ : ∃ w, k = 22 + w := ⟨k - 22, by omega⟩
      have := tr_lt hi hj (show w < 4 by omega)
      rw [(pxc_k hi hj hij (by omega)).2, (pxc_k hi hj hij this).2, tr_tr]
theorem WF_pxc {A : Pg} {i j : Nat} (hW : WF A) (hi : i < A 41) (hj : j < A 41) (hij : i ≠ j) : WF (pxc A i j) := by
  obtain ⟨⟨w1, w2, w3, w4, w5, w6, w7, w8, w9, w10, w11⟩, hw⟩ := hW
  have eo : ∀ k, k < 18 ∨ 26 ≤ k → pxc A i j k = A k := fun k hk => pxc_o (by omega) (by omega) hk
  refine ⟨⟨by rw [eo _ (by omega)]; exact w1, by rw [eo _ (by omega)]; exact w2, by rw [eo _ (by omega)]; exact w3, by rw [eo _ (by omega)]; exact w4, fun j hj => ?_, fun j hj => ?_, fun l hl => ?_, fun j hj => ?_, fun j l hj hl => ?_, fun j l hj hl => ?_, fun j l hj hl => ?_⟩, fun j hj => ?_⟩
  · rw [eo _ (by omega)] at hj; rw [eo _ (by omega), eo _ (by omega)]; exact w5 _ hj
  · rw [eo _ (by omega)] at hj; rw [eo _ (by omega)]; exact w6 _ hj
  · rw [eo _ (by omega)] at hl
    obtain ⟨z1, z2⟩ := pxc_k (A := A) (i := i) (j := j) (by omega) (by omega) hij (show l < 4 by omega)
    rw [z1, z2]
    exact w7 _ (tr_lt hi hj hl)
  · rw [eo _ (by omega)] at hj; rw [eo _ (by omega), eo _ (by omega)]; exact w8 _ hj
  · rw [eo _ (by omega)] at hj hl; rw [eo _ (by omega), eo _ (by omega)]; exact w9 _ _ hj hl
  · rw [eo _ (by omega)] at hj hl; rw [eo _ (by omega), eo _ (by omega)]; exact w10 _ _ hj hl
  · rw [eo _ (by omega)] at hj hl; rw [eo _ (by omega), eo _ (by omega)]; exact w11 _ _ hj hl
  · rw [eo _ (by omega)] at hj; rw [eo _ (by omega), eo _ (by omega)]; exact hw _ hj
/-- the page with the suits' hedgehogs exchanged -/
def swT (A : Pg) (i j t : Nat) : Pg := fun k => if 26 ≤ k ∧ k < 26 + t then tr i j (A k) else A k
theorem swT_o {A : Pg} {i j t k : Nat} (h : k < 26 ∨ 26 + t ≤ k) : swT A i j t k = A k := by
  unfold swT
  rw [if_neg (by omega)]
theorem swT_w {A : Pg} {i j t k : Nat} (h : k < t) : swT A i j t (26 + k) = tr i j (A (26 + k)) := by
  unfold swT
  rw [if_pos (by omega)]
theorem WF_swT {A : Pg} {i j : Nat} (hW : WF A) (hi : i < A 41) (hj : j < A 41) : WF (swT A i j (A 40)) := by
  obtain ⟨⟨w1, w2, w3, w4, w5, w6, w7, w8, w9, w10, w11⟩, hw⟩ := hW
  have eo : ∀ k, k < 26 ∨ 32 ≤ k → swT A i j (A 40) k = A k := fun k hk => swT_o (by omega)
  refine ⟨⟨by rw [eo _ (by omega)]; exact w1, by rw [eo _ (by omega)]; exact w2, by rw [eo _ (by omega)]; exact w3, by rw [eo _ (by omega)]; exact w4, fun j hj => ?_, fun j hj => ?_, fun l hl => ?_, fun l hl => ?_, fun j l hj hl => ?_, fun j l hj hl => ?_, fun j l hj hl => ?_⟩, fun l hl => ?_⟩
  · rw [eo _ (by omega)] at hj; rw [eo _ (by omega), eo _ (by omega)]; exact w5 _ hj
  · rw [eo _ (by omega)] at hj; rw [eo _ (by omega)]; exact w6 _ hj
  · rw [eo _ (by omega)] at hl; rw [eo _ (by omega), eo _ (by omega)]; exact w7 _ hl
  · rw [eo _ (by omega)] at hl
    rw [swT_w hl, eo _ (by omega)]
    have := tr_lt hi hj (hw l hl)
    exact ⟨by omega, (w8 l hl).2⟩
  · rw [eo _ (by omega)] at hj hl; rw [eo _ (by omega), eo _ (by omega)]; exact w9 _ _ hj hl
  · rw [eo _ (by omega)] at hj hl; rw [eo _ (by omega), eo _ (by omega)]; exact w10 _ _ hj hl
  · rw [eo _ (by omega)] at hj hl; rw [eo _ (by omega), eo _ (by omega)]; exact w11 _ _ hj hl
  · rw [eo _ (by omega)] at hl
    rw [swT_w hl, eo _ (by omega)]
    exact tr_lt hi hj (hw l hl)
theorem vw_swap {A : Pg} {i j r : Nat} (hW : WF A) (hi : i < A 41) (hj : j < A 41) (hij : i ≠ j) : vw (swT A i j (A 40)) (gOf (swT A i j (A 40))) r = vw (pxc A i j) (gOf A) r := by
  obtain ⟨⟨w1, w2, w3, w4, w5, w6, w7, w8, w9, w10, w11⟩, hw⟩ := id hW
  have eo : ∀ k, k < 26 ∨ 32 ≤ k → swT A i j (A 40) k = A k := fun k hk => swT_o (by omega)
  have ep : ∀ k, k < 18 ∨ 26 ≤ k → pxc A i j k = A k := fun k hk => pxc_o (by omega) (by omega) hk
  have eg : gOf A = gOf (pxc A i j) := funext fun x => gOf_congr (fun k hk => (ep k (by omega)).symm) w1 w2 x
  have eg2 : gOf A = gOf (swT A i j (A 40)) := funext fun x => gOf_congr (fun k hk => (eo k (by omega)).symm) w1 w2 x
  unfold vw
  rw [eo 40 (by omega), ep 40 (by omega)]
  refine cnt_congr (fun l hl => ?_)
  have hlw := hw l hl
  have : Wn (swT A i j (A 40)) (gOf (swT A i j (A 40))) l = Wn (pxc A i j) (gOf A) l := by
    show wcK _ _ (swT A i j (A 40) (18 + swT A i j (A 40) (26 + l))) (swT A i j (A 40) (22 + swT A i j (A 40) (26 + l))) (swT A i j (A 40) (32 + l)) = wcK _ _ (pxc A i j (18 + pxc A i j (26 + l))) (pxc A i j (22 + pxc A i j (26 + l))) (pxc A i j (32 + l))
    have ht := tr_lt hi hj hlw
    obtain ⟨z1, z2⟩ := pxc_k (A := A) (i := i) (j := j) (by omega) (by omega) hij (show A (26 + l) < 4 by omega)
    rw [swT_w hl, eo (32 + l) (by omega), eo (18 + _) (by omega), eo (22 + _) (by omega), ep (26 + l) (by omega), ep (32 + l) (by omega), z1, z2]
    rw [← wcK_congr (A := A) (B := swT A i j (A 40)) w1 (fun x => congrFun eg2 x) (fun q hq => (eo _ (by omega)).symm), wcK_congr (A := A) (B := pxc A i j) w1 (fun x => congrFun eg x) (fun q hq => (ep _ (by omega)).symm), ← eg]
  rw [this]
def swI (V : Nat → Nat → Nat) (i : Nat) (p : Nat × Nat) : Nat → Nat × Nat
  | 0 => p
  | k + 1 => st (swI V i p k) (10 * i + (i + 1 + k)) (V i (i + 1 + k))
def swO (V : Nat → Nat → Nat) (n : Nat) (p : Nat × Nat) : Nat → Nat × Nat
  | 0 => p
  | i + 1 => swI V i (swO V n p i) (n - (i + 1))
theorem swI_le {V : Nat → Nat → Nat} {i : Nat} {p : Nat × Nat} (hV : ∀ i j, V i j ≤ 6) (hp : p.2 ≤ 7 ∧ p.1 ≤ 1000) (hi : i < 4) : ∀ k, k ≤ 4 → (swI V i p k).2 ≤ 7 ∧ (swI V i p k).1 ≤ 1000 := by
  intro k
  induction k with
  | zero => exact fun _ => hp
  | succ k ih =>
    intro hk
    have h1 := ih (by omega)
    have := hV i (i + 1 + k)
    unfold swI st
    split
    · exact ⟨by dsimp only; omega, by dsimp only; omega⟩
    · exact h1
theorem swO_le {V : Nat → Nat → Nat} {n : Nat} {p : Nat × Nat} (hV : ∀ i j, V i j ≤ 6) (hp : p.2 ≤ 7 ∧ p.1 ≤ 1000) (hn : n ≤ 4) : ∀ i, i ≤ n → (swO V n p i).2 ≤ 7 ∧ (swO V n p i).1 ≤ 1000 := by
  intro i
  induction i with
  | zero => exact fun _ => hp
  | succ i ih =>
    intro hi
    exact swI_le hV (ih (by omega)) (by omega) _ (by omega)
