/-! read -/
def flt (l n : Nat) (a : Int32) (x : Int) : Int32 := if l = 0 then 1 else if nI (l - 1) ≠ a then 3 else if 0 ≤ x ∧ x < n then 0 else 2
theorem idx_in {f : Int32} {i n : Nat} (hi : i ≤ 41) (hn : n ≤ 40) (h : 0 ≤ f.toInt + i ∧ f.toInt + i < n) : f + nI i = nI (f.toInt + i).toNat := by
  apply Int32.toInt_inj.mp
  rw [Int32.toInt_add, nI_toInt (by omega), nI_toInt (by omega), Int.bmod_eq_of_le (by omega) (by omega)]
  omega
theorem idx_out {f : Int32} {i n : Nat} (hi : i ≤ 41) (hn : n ≤ 40) (h : ¬ (0 ≤ f.toInt + i ∧ f.toInt + i < n)) : f + nI i < 0 ∨ ¬ f + nI i < nI n := by
  have h1 := f.toInt_lt
  have h2 := f.le_toInt
  rw [lt0, lnle_iff (by omega), Int32.toInt_add, nI_toInt (by omega)]
  by_cases hb : f.toInt + i < 2 ^ 31
  · rw [Int.bmod_eq_of_le (by omega) (by omega)]
    omega
  · left
    have : (f.toInt + (i : Int)).bmod (2 ^ 32) = f.toInt + i - 2 ^ 32 := by
      rw [Int.bmod_def]
      have e : (f.toInt + (i : Int)) % ((2 ^ 32 : Nat) : Int) = f.toInt + i := Int.emod_eq_of_lt (by omega) (by omega)
      rw [e, if_neg (by omega)]
      omega
    rw [this]
    omega
theorem x_refusal {t l n i : Nat} {a f : Int32} {s : Sg} (hn : n ≤ 40) (hl : l < 4) (hi : i ≤ 41) (h0 : s t 0 = if l = 0 then -1 else nI (l - 1)) (h1 : s t 1 = nI n) : f_X6_refusal t a (f + nI i) s = flt l n a (f.toInt + i) := by
  unfold f_X6_refusal flt
  rw [h0, h1]
  by_cases z : l = 0
  · rw [if_pos z, if_pos rfl, if_pos z]
  · rw [if_neg z, if_neg (nneg1 (by omega)), if_neg z]
    by_cases za : nI (l - 1) = a
    · rw [if_pos za, if_neg (show ¬ (nI (l - 1) ≠ a) from fun q => q za)]
      by_cases zx : 0 ≤ f.toInt + i ∧ f.toInt + i < n
      · rw [idx_in hi hn zx, if_neg (nlt (by omega)), if_pos (nI_lt (by omega) (by omega)), if_pos zx]
      · rw [if_neg zx]
        rcases idx_out hi hn zx with q | q
        · rw [if_pos q]
        · rw [if_neg q, ite_self]
    · rw [if_neg za, if_pos za]
theorem x_stored {t n j : Nat} {s : Sg} (hj : j < n) (hn : n ≤ 40) (h1 : s t 1 = nI n) : f_X6_stored t (nI j) s = some (s (t + 1) j) := by
  unfold f_X6_stored
  rw [if_neg (nlt (by omega)), h1, if_neg (nnle hj (by omega)), if_pos (inR_of (vp_in_nI (by omega) (by omega))), nI_clamp (by omega)]
theorem flt0 {l n : Nat} {a : Int32} {x : Int} (h : flt l n a x = 0) : l ≠ 0 ∧ nI (l - 1) = a ∧ 0 ≤ x ∧ x < n := by
  unfold flt at h
  by_cases z : l = 0
  · rw [if_pos z] at h; exact absurd h (by decide)
  · rw [if_neg z] at h
    by_cases za : nI (l - 1) = a
    · rw [if_neg (show ¬ (nI (l - 1) ≠ a) from fun q => q za)] at h
      by_cases zx : 0 ≤ x ∧ x < n
      · exact ⟨z, za, zx⟩
      · rw [if_neg zx] at h; exact absurd h (by decide)
    · rw [if_pos za] at h; exact absurd h (by decide)
/-- what is read: whether it is not refused, how many came, the fault, the page -/
def rd (F V : Nat → Int32) : Nat → Nat → Pg → Bool × Nat × Int32 × Pg
  | 0, c, B => (true, c, 0, B)
  | m + 1, c, B => if F (2 * c) ≠ 0 then (true, c, F (2 * c), B) else if F (2 * c + 1) ≠ 0 then (true, c, F (2 * c + 1), B) else if (drv B (V (2 * c)) (V (2 * c + 1))).1 < 0 then (false, c, 0, B) else rd F V m (c + 1) (drv B (V (2 * c)) (V (2 * c + 1))).2
/-- page B is A with some pegs more -/
def Ext (A B : Pg) : Prop := A 38 ≤ B 38 ∧ (∀ i, i < A 38 → B i = A i ∧ B (7 + i) = A (7 + i)) ∧ ∀ k, (14 ≤ k ∧ k < 38) ∨ 39 ≤ k → B k = A k
theorem Ext.rf {A : Pg} : Ext A A := ⟨Nat.le_refl _, fun _ _ => ⟨rfl, rfl⟩, fun _ _ => rfl⟩
theorem Ext_drv {A B : Pg} {a r : Int32} (h : Ext A B) (h7 : B 38 ≤ 7) : Ext A (drv B a r).2 := by
  obtain ⟨q1, q2, q3⟩ := h
  have hd : (drv B a r).2 = B ∨ (B 38 < 7 ∧ (drv B a r).2 = pPeg B a.toNatClampNeg r.toNatClampNeg) := by
    unfold drv
    split
    · exact Or.inl rfl
    · split
      · exact Or.inl rfl
      · split
        · exact Or.inl rfl
        · split
          · exact Or.inl rfl
          · exact Or.inr ⟨by omega, rfl⟩
  rcases hd with e | ⟨hlt, e⟩
  · rw [e]; exact ⟨q1, q2, q3⟩
  · rw [e]
    refine ⟨?_, fun i hi => ?_, fun k hk => ?_⟩
    · unfold pPeg; rw [pu_s]; omega
    · obtain ⟨u1, u2⟩ := q2 i hi
      unfold pPeg
      rw [pu_n _ _ (by omega), pu_n _ _ (by omega), pu_n _ _ (by omega), pu_n _ _ (by omega), pu_n _ _ (by omega), pu_n _ _ (by omega)]
      exact ⟨u1, u2⟩
    · unfold pPeg
      rw [pu_n _ _ (by omega), pu_n _ _ (by omega), pu_n _ _ (by omega)]
      exact q3 k hk
theorem Ext.cut {A B : Pg} (h : Ext A B) (hW : WFs A) : Eqp (cutP B (A 38)) A := by
  obtain ⟨q1, q2, q3⟩ := h
  have e : ∀ k, k ≠ 38 → cutP B (A 38) k = B k := fun k hk => pu_n _ _ hk
  have e38 : cutP B (A 38) 38 = A 38 := pu_s _ _ _
  obtain ⟨w1, w2, w3, w4, -⟩ := hW
  have e39 : cutP B (A 38) 39 = A 39 := by rw [e _ (by omega)]; exact q3 _ (by omega)
  have e40 : cutP B (A 38) 40 = A 40 := by rw [e _ (by omega)]; exact q3 _ (by omega)
  have e41 : cutP B (A 38) 41 = A 41 := by rw [e _ (by omega)]; exact q3 _ (by omega)
  refine ⟨e38, e39, e40, e41, fun i hi => ?_, fun i hi => ?_, fun i hi => ?_, fun i hi => ?_⟩
  · rw [e38] at hi
    rw [e _ (by omega), e _ (by omega)]
    exact q2 i hi
  · rw [e39] at hi
    rw [e _ (by omega)]
    exact q3 _ (by omega)
  · rw [e41] at hi
    rw [e _ (by omega), e _ (by omega)]
    exact ⟨q3 _ (by omega), q3 _ (by omega)⟩
  · rw [e40] at hi
    rw [e _ (by omega), e _ (by omega)]
    exact ⟨q3 _ (by omega), q3 _ (by omega)⟩
theorem rd_ok {F V : Nat → Int32} : ∀ m c B, WF B → WF (rd F V m c B).2.2.2 ∧ (rd F V m c B).2.2.2 41 = B 41 := by
  intro m
  induction m with
  | zero => intro c B h; exact ⟨h, rfl⟩
  | succ m ih =>
    intro c B h
    unfold rd
    have hd := WF_drv (a := V (2 * c)) (r := V (2 * c + 1)) h
    have h41 : (drv B (V (2 * c)) (V (2 * c + 1))).2 41 = B 41 := drv_same h.1.1 (by omega)
    split
    · exact ⟨h, rfl⟩
    · split
      · exact ⟨h, rfl⟩
      · split
        · exact ⟨h, rfl⟩
        · have := ih (c + 1) _ hd
          exact ⟨this.1, this.2.trans h41⟩
theorem wh_1 {S R : Type} {f : S → Option (S ⊕ R)} {P : Nat → S → Prop} {Q : R → Prop} (m : Nat) {s : S} {N : Nat} (hN : m < N) (h0 : P 0 s) (hs : ∀ k s, k ≤ m → P k s → Ok (f s) (fun y => (k < m ∧ ∃ s', y = .inl s' ∧ P (k + 1) s') ∨ ∃ r, y = .inr r ∧ Q r)) : Ok (wh f N s) Q := wh_0 m hN h0 (fun k s hk hp => by
  obtain ⟨y, e, h⟩ := hs k s hk hp
  rcases h with ⟨h1, h2⟩ | h2
  · exact Or.inl ⟨h1, y, e, h2⟩
  · exact Or.inr ⟨y, e, h2⟩)
def RdX (R : Bool × Nat × Int32 × Pg) (A : Pg) (σ : Sg) (r : (Int32 × Int32 × Sg) ⊕ (Int32 × Sg)) : Prop := (∃ e, r = .inl e ∧ R.1 = true ∧ e.1 = nI R.2.1 ∧ e.2.1 = R.2.2.1 ∧ RX 1 R.2.2.2 e.2.2 ∧ Fr (slp 1) σ e.2.2) ∨ ∃ e, r = .inr e ∧ R.1 = false ∧ e.1 = -20 - nI R.2.1 ∧ RX 1 A e.2 ∧ Fr (slp 1) σ e.2
theorem x_read {A : Pg} {σ : Sg} {k l n m : Nat} {a f : Int32} (hX : RX 1 A σ) (hW : WF A) (hk : k < 4) (hl : l < 4) (hn : n ≤ 40) (hm : m ≤ 20) (h0 : σ (67 + 2 * k) 0 = if l = 0 then -1 else nI (l - 1)) (h1 : σ (67 + 2 * k) 1 = nI n) (hV : ∀ j, j < 40 → σ (67 + 2 * k + 1) j = σ 87 (40 * k + j)) :
    Ok (wh (b_X9_read_51 (nI k) a f (nI m) (nI (A 38))) 4096 ((0 : Int32), (0 : Int32), σ)) (RdX (rd (fun i => flt l n a (f.toInt + i)) (fun i => σ 87 (40 * k + (f.toInt + i).toNat)) m 0 A) A σ) := by
  have w1 := hW.1.1
  generalize hF : (fun i : Nat => flt l n a (f.toInt + i)) = F
  generalize hV2 : (fun i : Nat => σ 87 (40 * k + (f.toInt + i).toNat)) = V
  have hF' : ∀ i : Nat, flt l n a (f.toInt + i) = F i := fun i => by rw [← hF]
  have hV' : ∀ i : Nat, σ 87 (40 * k + (f.toInt + i).toNat) = V i := fun i => by rw [← hV2]
  generalize hR : rd F V m 0 A = R
  refine wh_1 (P := fun t (e : Int32 × Int32 × Sg) => Fr (slp 1) σ e.2.2 ∧ ((t ≤ m ∧ e.1 = nI t ∧ e.2.1 = 0 ∧ ∃ B, RX 1 B e.2.2 ∧ WF B ∧ Ext A B ∧ rd F V (m - t) t B = R) ∨ (e.2.1 ≠ 0 ∧ R.1 = true ∧ e.1 = nI R.2.1 ∧ e.2.1 = R.2.2.1 ∧ RX 1 R.2.2.2 e.2.2))) (m + 1) (by omega) ⟨Fr.rf, Or.inl ⟨Nat.zero_le _, rfl, rfl, A, hX, hW, Ext.rf, hR⟩⟩ ?_
  rintro t ⟨came, by', s⟩ ht ⟨hFr, hI⟩
  dsimp at hFr hI
  unfold b_X9_read_51
  dsimp +instances only
  rcases hI with ⟨htm, e1, e2, B, hB, hWB, hE, hrd⟩ | ⟨z1, z2, z3, z4, z5⟩
  · subst e1 e2
    by_cases hlt : t < m
    · refine ok_f (show ¬ nI m ≤ nI t from nnle hlt (by omega)) (ok_t rfl (ok_app ?_))
      have s0 : s (67 + 2 * k) = σ (67 + 2 * k) := hFr _ (by unfold slp; omega)
      have s1 : s (67 + 2 * k + 1) = σ (67 + 2 * k + 1) := hFr _ (by unfold slp; omega)
      have r1 := x_refusal (t := 67 + 2 * k) (i := 2 * t) (a := a) (f := f) (s := s) hn hl (by omega) (by rw [s0]; exact h0) (by rw [s0]; exact h1)
      have r2 := x_refusal (t := 67 + 2 * k) (i := 2 * t + 1) (a := a) (f := f) (s := s) hn hl (by omega) (by rw [s0]; exact h0) (by rw [s0]; exact h1)
      rw [hF'] at r1 r2
      have hmt : m - t = (m - (t + 1)) + 1 := by omega
      rw [hmt] at hrd
      unfold rd at hrd
      have ei : f + (2 : Int32) * nI t = f + nI (2 * t) := by rw [show (2 : Int32) = nI 2 from rfl, pk_mul]
      have ei2 : f + nI (2 * t) + 1 = f + nI (2 * t + 1) := by
        rw [Int32.add_assoc]
        congr 1
        exact nI_1 _
      rw [ei, nI_clamp (by omega)]
      have ref : f_X6_refusalOfTwo (67 + 2 * k) a (f + nI (2 * t)) s = if F (2 * t) = 0 then F (2 * t + 1) else F (2 * t) := by
        unfold f_X6_refusalOfTwo
        rw [ei2, r1, r2]
        rfl
      rw [ref]
      by_cases g1 : F (2 * t) = 0
      · rw [if_pos g1]
        rw [if_neg (fun z => z g1)] at hrd
        by_cases g2 : F (2 * t + 1) = 0
        · rw [if_neg (fun z => z g2)] at hrd
          rw [g2]
          refine ok_t rfl ?_
          have y1 := g1
          have y2 := g2
          rw [← hF'] at y1 y2
          obtain ⟨-, -, y3, y4⟩ := flt0 y1
          obtain ⟨-, -, y5, y6⟩ := flt0 y2
          rw [ei2, idx_in (n := n) (by omega) hn ⟨y3, y4⟩, idx_in (n := n) (by omega) hn ⟨y5, y6⟩, x_stored (n := n) (by omega) hn (by rw [s0]; exact h1), x_stored (n := n) (by omega) hn (by rw [s0]; exact h1), Option.bind_some, Option.bind_some, s1, hV _ (by omega), hV _ (by omega), hV', hV']
          refine ok_bind (x_drv hB hWB.1) (fun y hy => ?_)
          obtain ⟨d1, d2, d3⟩ := hy
          rw [d1]
          have hWD := WF_drv (a := V (2 * t)) (r := V (2 * t + 1)) hWB
          have hED := Ext_drv (a := V (2 * t)) (r := V (2 * t + 1)) hE hWB.1.1
          by_cases hd : (drv B (V (2 * t)) (V (2 * t + 1))).1 < 0
          · rw [if_pos hd] at hrd
            refine ok_f (by rw [← Int32.not_lt]; exact fun q => q hd) ?_
            refine ok_bind (x_cutPegs d2 hWD.1 hED.1) (fun u hu => ok_some (Or.inr ⟨_, rfl, Or.inr ⟨_, rfl, ?_, ?_, hu.1.eqp (hED.cut hW.1), (hFr.tr d3).tr hu.2⟩⟩))
            · rw [← hrd]
            · rw [← hrd]
          · rw [if_neg hd] at hrd
            refine ok_t (by rw [← Int32.not_lt]; exact hd) (ok_some (Or.inl ⟨by omega, _, rfl, hFr.tr d3, Or.inl ⟨by omega, nI_1 _, rfl, _, d2, hWD, hED, hrd⟩⟩))
        · rw [if_pos g2] at hrd
          refine ok_f g2 (ok_some (Or.inl ⟨by omega, _, rfl, hFr, Or.inr ⟨g2, ?_, ?_, ?_, ?_⟩⟩))
          · rw [← hrd]
          · rw [← hrd]
          · rw [← hrd]
          · rw [← hrd]; exact hB
      · rw [if_neg g1]
        rw [if_pos g1] at hrd
        refine ok_f g1 (ok_some (Or.inl ⟨by omega, _, rfl, hFr, Or.inr ⟨g1, ?_, ?_, ?_, ?_⟩⟩))
        · rw [← hrd]
        · rw [← hrd]
        · rw [← hrd]
        · rw [← hrd]; exact hB
    · obtain rfl : t = m := by omega
      rw [Nat.sub_self] at hrd
      unfold rd at hrd
      refine ok_t (show nI t ≤ nI t from nle (Nat.le_refl _) (by omega)) (ok_some (Or.inr ⟨_, rfl, Or.inl ⟨_, rfl, ?_, ?_, ?_, ?_, hFr⟩⟩))
      · rw [← hrd]
      · rw [← hrd]
      · rw [← hrd]
      · rw [← hrd]; exact hB
  · by_cases hlt : nI m ≤ came
    · exact ok_t hlt (ok_some (Or.inr ⟨_, rfl, Or.inl ⟨_, rfl, z2, z3, z4, z5, hFr⟩⟩))
    · exact ok_f hlt (ok_f z1 (ok_some (Or.inr ⟨_, rfl, Or.inl ⟨_, rfl, z2, z3, z4, z5, hFr⟩⟩)))
