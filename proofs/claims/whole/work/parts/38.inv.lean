/-! both objects together -/
def scX (c : Nat) : Prop := (10 ≤ c ∧ c ≤ 29) ∨ (56 ≤ c ∧ c ≤ 65)
/-- what counts is the same -/
def Same (σ σ' : Sg) : Prop := (∀ c, ¬ (scX c ∨ c = 75 ∨ c = 76 ∨ c = 77 ∨ c = 81 ∨ c = 83) → σ' c = σ c) ∧ (∀ j, ¬ (16 ≤ j ∧ j ≤ 19) → σ' 75 j = σ 75 j) ∧ ∀ k, k < 123 → σ' 76 k = σ 76 k
theorem Same.rf {σ : Sg} : Same σ σ := ⟨fun _ _ => rfl, fun _ _ => rfl, fun _ _ => rfl⟩
theorem Same.tr {σ σ1 σ2 : Sg} (h1 : Same σ σ1) (h2 : Same σ1 σ2) : Same σ σ2 := ⟨fun c hc => (h2.1 c hc).trans (h1.1 c hc), fun j hj => (h2.2.1 j hj).trans (h1.2.1 j hj), fun k hk => (h2.2.2 k hk).trans (h1.2.2 k hk)⟩
theorem Same.fr {σ σ1 : Sg} {p : Nat → Prop} (h : Fr p σ σ1) (hp : ∀ c, p c → scX c) : Same σ σ1 :=
  ⟨fun c hc => h c (fun z => hc (Or.inl (hp c z))), fun j _ => by rw [h 75 (fun z => by have := hp _ z; unfold scX at this; omega)], fun j _ => by rw [h 76 (fun z => by have := hp _ z; unfold scX at this; omega)]⟩
theorem Same.m {σ σ1 : Sg} (h : FrM σ σ1) : Same σ σ1 :=
  ⟨fun c hc => h.1 c (by unfold scX at hc; omega) (by omega), fun j hj => h.2 j (by omega) (by omega) (by omega) (by omega), fun k _ => by rw [h.1 76 (by omega) (by omega)]⟩
theorem Same.p {σ σ1 : Sg} {k : Nat} {x : Int32} (h : Same σ σ1) (hk : 123 ≤ k) : Same σ (up2 σ1 76 k x) :=
  ⟨fun c hc => by rw [up2_cell _ _ _ (by omega)]; exact h.1 c hc, fun j hj => by rw [up2_cell _ _ _ (by omega)]; exact h.2.1 j hj, fun j hj => by rw [up2_slot _ _ (by omega)]; exact h.2.2 j hj⟩
def Tape (σ : Sg) : Prop := ∃ n, n ≤ 160 ∧ σ 54 1 = nI n ∧ σ 75 6 = nI n ∧ ∀ i, i < n → ∃ k, k ≤ 127 ∧ σ 55 i = nI k ∧ σ 78 i = nI k
def Seen (hogs : Nat) (σ : Sg) : Prop := ∃ n, n ≤ 6 ∧ σ 30 3 = nI n ∧ σ 75 22 = nI n ∧ ∀ i, i < n → ∃ h c p, h < hogs ∧ c < 8 ∧ p ≤ 7 ∧ σ 31 i = nI h ∧ σ 82 (3 * i) = nI h ∧ σ 32 i = nI c ∧ σ 82 (3 * i + 1) = nI c ∧ σ 33 i = (if p = 0 then 9 else nI (p - 1)) ∧ σ 82 (3 * i + 2) = rI p
def Sheets (σ : Sg) : Prop := ∀ k, k < 4 → ∃ l n, l < 4 ∧ n ≤ 40 ∧ σ (67 + 2 * k) 0 = (if l = 0 then -1 else nI (l - 1)) ∧ σ 85 k = rI l ∧ σ (67 + 2 * k) 1 = nI n ∧ σ 86 k = nI n ∧ ∀ j, j < 40 → σ (67 + 2 * k + 1) j = σ 87 (40 * k + j)
def cutN : Nat → Nat := fun i => [0, 5, 8, 13, 17, 20, 24, 28].getD i 0
def letN : Nat → Nat := fun i => [112, 108, 97, 105, 110, 102, 97, 116, 121, 111, 117, 110, 103, 98, 111, 97, 114, 112, 101, 103, 115, 108, 117, 103, 115, 117, 105, 116].getD i 0
def Cst (σ : Sg) : Prop := (∀ i, i < 8 → σ 79 i = nI (cutN i)) ∧ ∀ i, i < 28 → σ 80 i = nI (letN i)
/-- image k is kept, or not -/
def Img (A : Pg) (I : Nat → Pg) (k : Nat) (σ : Sg) : Prop := (σ 35 k = 0 ∧ σ 84 k = 0) ∨ (σ 35 k = 1 ∧ σ 84 k = 1 ∧ RX (36 + 9 * k) (I k) σ ∧ RM (41 * (k + 1)) (I k) σ ∧ (I k) 41 = A 41 ∧ WF (I k))
def InvA (A : Pg) (I : Nat → Pg) (σ : Sg) : Prop := RX 1 A σ ∧ RM 0 A σ ∧ σ 75 1 = nI (A 41) ∧ WF A ∧ (∀ k, k < 2 → Img A I k σ) ∧ Tape σ ∧ Seen (A 41) σ ∧ σ 0 11 = σ 75 7 ∧ σ 0 13 = σ 75 28 ∧ Sheets σ ∧ Cst σ
def Inv (σ : Sg) : Prop := ∃ A I, InvA A I σ
theorem InvA.same {A : Pg} {I : Nat → Pg} {σ σ' : Sg} (h : InvA A I σ) (hs : Same σ σ') : InvA A I σ' := by
  obtain ⟨h1, h2, h3, h4, h5, h6, h7, h8, h9, h10, h11⟩ := h
  obtain ⟨s1, s2, s3⟩ := hs
  have z : ∀ c, (c ≤ 9 ∨ (30 ≤ c ∧ c ≤ 55) ∨ (66 ≤ c ∧ c ≤ 74) ∨ (78 ≤ c ∧ c ≤ 80) ∨ c = 82 ∨ 84 ≤ c) → σ' c = σ c := fun c hc => s1 c (by unfold scX; omega)
  refine ⟨h1.keep (fun k hk => z _ (by omega)), fun k hk => by rw [s3 _ (by omega)]; exact h2 k hk, by rw [s2 1 (by omega)]; exact h3, h4, fun k hk => ?_, ?_, ?_, by rw [z 0 (by omega), s2 7 (by omega)]; exact h8, by rw [z 0 (by omega), s2 28 (by omega)]; exact h9, fun k hk => ?_, ?_⟩
  · unfold Img
    rw [z 35 (by omega), z 84 (by omega)]
    rcases h5 k hk with q | ⟨q1, q2, q3, q4, q5⟩
    · exact Or.inl q
    · exact Or.inr ⟨q1, q2, q3.keep (fun j hj => z _ (by omega)), fun j hj => by rw [s3 _ (by omega)]; exact q4 j hj, q5⟩
  · obtain ⟨n, q1, q2, q3, q4⟩ := h6
    exact ⟨n, q1, by rw [z 54 (by omega)]; exact q2, by rw [s2 6 (by omega)]; exact q3, fun i hi => by rw [z 55 (by omega), z 78 (by omega)]; exact q4 i hi⟩
  · obtain ⟨n, q1, q2, q3, q4⟩ := h7
    exact ⟨n, q1, by rw [z 30 (by omega)]; exact q2, by rw [s2 22 (by omega)]; exact q3, fun i hi => by rw [z 31 (by omega), z 32 (by omega), z 33 (by omega), z 82 (by omega)]; exact q4 i hi⟩
  · obtain ⟨l, n, q⟩ := h10 k hk
    exact ⟨l, n, by rw [z _ (show _ by omega), z 85 (by omega), z 86 (by omega), z 87 (by omega), z _ (show _ by omega)]; exact q⟩
  · unfold Cst
    rw [z 79 (by omega), z 80 (by omega)]
    exact h11
/-- class and reference answer the same and keep together -/
def Op (t1 : Option (Int32 × Sg)) (t2 : Sg → Option (Int32 × Sg)) : Prop := ∃ r σ1 σ2, t1 = some (r, σ1) ∧ t2 σ1 = some (r, σ2) ∧ Inv σ2
theorem op_q {A : Pg} {I : Nat → Pg} {σ : Sg} {t1 : Option (Int32 × Sg)} {t2 : Sg → Option (Int32 × Sg)} {r : Int32} (h : InvA A I σ) (hx : Ok t1 (fun y => y.1 = r ∧ Same σ y.2)) (hm : ∀ σ1, InvA A I σ1 → Ok (t2 σ1) (fun y => y.1 = r ∧ Same σ1 y.2)) : Op t1 t2 := by
  obtain ⟨⟨r1, σ1⟩, e1, rfl, q1⟩ := hx
  have h' := h.same q1
  obtain ⟨⟨r2, σ2⟩, e2, q, q2⟩ := hm σ1 h'
  dsimp at q q2 q1 h'
  subst q
  exact ⟨_, σ1, σ2, e1, e2, A, I, h'.same q2⟩
/-- a refused call -/
theorem op_0 {A : Pg} {I : Nat → Pg} {σ : Sg} {t1 : Option (Int32 × Sg)} {t2 : Sg → Option (Int32 × Sg)} {r : Int32} (h : InvA A I σ) (hx : t1 = some (r, σ)) (hm : t2 σ = some (r, σ)) : Op t1 t2 := ⟨r, σ, σ, hx, hm, A, I, h⟩
theorem sx {b : Nat} {σ σ1 : Sg} (h : Fr (crt b) σ σ1) (hb : b = 1 ∨ b = 13) : Same σ σ1 := Same.fr h (fun c hc => by unfold crt at hc; unfold scX; omega)
theorem pq0 {x : Int32} {n : Nat} (hn : n < 2 ^ 31) : (¬ x < 0 ∧ x ≤ nI n) ↔ vp_in x (n + 1) := by
  rw [vin_iff, lt0, Int32.le_iff_toInt_le, nI_toInt hn]
  omega
theorem vin_nI {x : Int32} {n : Nat} (h : vp_in x n) (hn : n < 2 ^ 31) : ∃ j, j < n ∧ x = nI j := vp_in_of h hn
/-- outside of S all is as it was -/
def Agr (S : Nat → Nat → Prop) (σ σ' : Sg) : Prop := ∀ c j, ¬ S c j → σ' c j = σ c j
theorem Agr.rf {S : Nat → Nat → Prop} {σ : Sg} : Agr S σ σ := fun _ _ _ => rfl
theorem Agr.tr {S : Nat → Nat → Prop} {σ σ1 σ2 : Sg} (h1 : Agr S σ σ1) (h2 : Agr S σ1 σ2) : Agr S σ σ2 := fun c j hc => (h2 c j hc).trans (h1 c j hc)
theorem Agr.mono {S T : Nat → Nat → Prop} {σ σ1 : Sg} (h1 : Agr S σ σ1) (h : ∀ c j, S c j → T c j) : Agr T σ σ1 := fun c j hc => h1 c j (fun z => hc (h c j z))
theorem Agr.up {S : Nat → Nat → Prop} {σ σ1 : Sg} (h1 : Agr S σ σ1) {a i : Nat} {x : Int32} (h : S a i) : Agr S σ (up2 σ1 a i x) := fun c j hc => by
  have : up2 σ1 a i x c j = σ1 c j := by
    unfold up2
    by_cases e : c = a
    · subst e
      rw [if_pos rfl]
      by_cases e2 : j = i
      · subst e2; exact absurd h hc
      · rw [if_neg e2]
    · rw [if_neg e]
  rw [this]
  exact h1 c j hc
theorem Agr.row {S : Nat → Nat → Prop} {σ σ1 : Sg} (h1 : Agr S σ σ1) {a : Nat} {r : Nat → Int32} (h : ∀ j, S a j) : Agr S σ (upR σ1 a r) := fun c j hc => by
  rw [upR_ne _ _ (fun e => hc (by rw [e]; exact h j))]
  exact h1 c j hc
theorem Agr.fr {S : Nat → Nat → Prop} {σ σ1 : Sg} {p : Nat → Prop} (h : Fr p σ σ1) (hp : ∀ c j, p c → S c j) : Agr S σ σ1 := fun c j hc => by rw [h c (fun z => hc (hp c j z))]
theorem RX.ag {S : Nat → Nat → Prop} {σ σ' : Sg} {b : Nat} {A : Pg} (h : RX b A σ) (ha : Agr S σ σ') (hS : ∀ c j, S c j → c < b ∨ b + 8 < c) : RX b A σ' := h.keep (fun k hk => funext fun j => ha _ _ (fun z => by have := hS _ _ z; omega))
theorem RM.ag {S : Nat → Nat → Prop} {σ σ' : Sg} {p : Nat} {A : Pg} (h : RM p A σ) (ha : Agr S σ σ') (hS : ∀ j, S 76 j → j < p ∨ p + 41 ≤ j) : RM p A σ' := fun k hk => by
  rw [ha _ _ (fun z => by have := hS _ z; omega)]
  exact h k hk
theorem Img.ag {S : Nat → Nat → Prop} {σ σ' : Sg} {A : Pg} {I : Nat → Pg} {k : Nat} (h : Img A I k σ) (ha : Agr S σ σ') (hS : ∀ c j, S c j → ¬ (c = 35 ∨ c = 84 ∨ (36 + 9 * k ≤ c ∧ c ≤ 36 + 9 * k + 8) ∨ (c = 76 ∧ 41 * (k + 1) ≤ j ∧ j < 41 * (k + 1) + 41))) : Img A I k σ' := by
  unfold Img at h ⊢
  have e1 : σ' 35 k = σ 35 k := ha _ _ (fun z => by have := hS _ _ z; omega)
  have e2 : σ' 84 k = σ 84 k := ha _ _ (fun z => by have := hS _ _ z; omega)
  rw [e1, e2]
  rcases h with h | ⟨q1, q2, q3, q4, q5⟩
  · exact Or.inl h
  · exact Or.inr ⟨q1, q2, q3.ag ha (fun c j z => by have := hS _ _ z; omega), q4.ag ha (fun j z => by have := hS _ _ z; omega), q5⟩
theorem Tape.ag {S : Nat → Nat → Prop} {σ σ' : Sg} (h : Tape σ) (ha : Agr S σ σ') (hS : ∀ c j, S c j → ¬ ((c = 54 ∧ j = 1) ∨ c = 55 ∨ c = 78 ∨ (c = 75 ∧ j = 6))) : Tape σ' := by
  have e : ∀ c j, ((c = 54 ∧ j = 1) ∨ c = 55 ∨ c = 78 ∨ (c = 75 ∧ j = 6)) → σ' c j = σ c j := fun c j z => ha _ _ (fun q => hS _ _ q z)
  obtain ⟨n, q1, q2, q3, q4⟩ := h
  exact ⟨n, q1, by rw [e _ _ (by omega)]; exact q2, by rw [e _ _ (by omega)]; exact q3, fun i hi => by rw [e 55 _ (by omega), e 78 _ (by omega)]; exact q4 i hi⟩
theorem Seen.ag {S : Nat → Nat → Prop} {σ σ' : Sg} {n : Nat} (h : Seen n σ) (ha : Agr S σ σ') (hS : ∀ c j, S c j → ¬ ((c = 30 ∧ j = 3) ∨ c = 31 ∨ c = 32 ∨ c = 33 ∨ c = 82 ∨ (c = 75 ∧ j = 22))) : Seen n σ' := by
  have e : ∀ c j, ((c = 30 ∧ j = 3) ∨ c = 31 ∨ c = 32 ∨ c = 33 ∨ c = 82 ∨ (c = 75 ∧ j = 22)) → σ' c j = σ c j := fun c j z => ha _ _ (fun q => hS _ _ q z)
  obtain ⟨n, q1, q2, q3, q4⟩ := h
  exact ⟨n, q1, by rw [e _ _ (by omega)]; exact q2, by rw [e _ _ (by omega)]; exact q3, fun i hi => by rw [e 31 _ (by omega), e 32 _ (by omega), e 33 _ (by omega), e 82 _ (by omega), e 82 _ (by omega), e 82 _ (by omega)]; exact q4 i hi⟩
theorem Sheets.ag {S : Nat → Nat → Prop} {σ σ' : Sg} (h : Sheets σ) (ha : Agr S σ σ') (hS : ∀ c j, S c j → ¬ ((67 ≤ c ∧ c ≤ 74) ∨ c = 85 ∨ c = 86 ∨ c = 87)) : Sheets σ' := by
  have e : ∀ c j, ((67 ≤ c ∧ c ≤ 74) ∨ c = 85 ∨ c = 86 ∨ c = 87) → σ' c j = σ c j := fun c j z => ha _ _ (fun q => hS _ _ q z)
  intro k hk
  obtain ⟨l, n, q1, q2, q3, q4, q5, q6, q7⟩ := h k hk
  exact ⟨l, n, q1, q2, by rw [e _ _ (by omega)]; exact q3, by rw [e _ _ (by omega)]; exact q4, by rw [e _ _ (by omega)]; exact q5, by rw [e _ _ (by omega)]; exact q6, fun j hj => by rw [e _ _ (by omega), e _ _ (by omega)]; exact q7 j hj⟩
theorem Cst.ag {S : Nat → Nat → Prop} {σ σ' : Sg} (h : Cst σ) (ha : Agr S σ σ') (hS : ∀ c j, S c j → ¬ (c = 79 ∨ c = 80)) : Cst σ' := by
  have e : ∀ c j, (c = 79 ∨ c = 80) → σ' c j = σ c j := fun c j z => ha _ _ (fun q => hS _ _ q z)
  exact ⟨fun i hi => by rw [e _ _ (by omega)]; exact h.1 i hi, fun i hi => by rw [e _ _ (by omega)]; exact h.2 i hi⟩
theorem op_feed {σ : Sg} (h : Inv σ) (a : Int32) : Op (f_X9_feed a σ) (f_X10_feed a) := by
  obtain ⟨A, I, h⟩ := h
  obtain ⟨h1, h2, h3, h4, h5, ⟨n, t1, t2, t3, t4⟩, h7, h8, h9, h10, h11⟩ := id h
  have hm := mIn0 (x := a) (hi := 127) (n := 128) (by decide)
  by_cases hv : vp_in a 128
  · obtain ⟨j, hj, rfl⟩ := vin_nI hv (by omega)
    have c1 : ¬ nI j < 0 := nlt (by omega)
    have c2 : nI j ≤ 127 := nle (b := 127) (by omega) (by omega)
    have c3 : ¬ f_X10_in (nI j).toInt64 0 127 = 0 := by rw [hm.1 hv]; decide
    by_cases hn : n = 160
    · subst hn
      refine op_0 h (r := -3) ?_ ?_
      · unfold f_X9_feed f_X8_add
        rw [if_neg c1, if_pos c2, t2, if_neg (by decide)]
        rfl
      · unfold f_X10_feed
        rw [if_neg c3, t3, if_pos (by decide)]
    · have c4 : nI n < 160 := nI_lt (b := 160) (by omega) (by omega)
      have c5 : inR (nI n) 160 = true := inR_of (vp_in_nI (by omega) (by omega))
      have c6 : ¬ nI n = 160 := nne (b := 160) hn (by omega) (by omega)
      refine ⟨nI (n + 1), up2 (up2 σ 55 n (nI j)) 54 1 (nI (n + 1)), up2 (up2 (up2 (up2 σ 55 n (nI j)) 54 1 (nI (n + 1))) 78 n (nI j)) 75 6 (nI (n + 1)), ?_, ?_, A, I, ?_⟩
      · unfold f_X9_feed f_X8_add
        rw [if_neg c1, if_pos c2, t2, if_pos c4, if_pos c5, nI_clamp (by omega)]
        simp only [app, Option.bind_some]
        have e4 : up2 σ 55 n (nI j) 54 1 = nI n := by rw [up2_cell _ _ _ (by decide)]; exact t2
        rw [e4, nI_1, up2_same]
      · unfold f_X10_feed
        have e6 : up2 (up2 σ 55 n (nI j)) 54 1 (nI (n + 1)) 75 6 = nI n := by rw [up2_cell _ _ _ (by decide), up2_cell _ _ _ (by decide)]; exact t3
        rw [if_neg c3, e6, if_neg c6, if_pos c5, nI_clamp (by omega)]
        simp only [app]
        have e7 : up2 (up2 (up2 σ 55 n (nI j)) 54 1 (nI (n + 1))) 78 n (nI j) 75 6 = nI n := by rw [up2_cell _ _ _ (by decide)]; exact e6
        rw [e7, nI_1, up2_same]
      · have ha : Agr (fun c j => (c = 54 ∧ j = 1) ∨ c = 55 ∨ c = 78 ∨ (c = 75 ∧ j = 6)) σ (up2 (up2 (up2 (up2 σ 55 n (nI j)) 54 1 (nI (n + 1))) 78 n (nI j)) 75 6 (nI (n + 1))) := (((Agr.rf.up (by omega)).up (by omega)).up (by omega)).up (by omega)
        refine ⟨h1.ag ha (fun c j z => by omega), h2.ag ha (fun j z => by omega), by rw [ha _ _ (by omega)]; exact h3, h4, fun k hk => (h5 k hk).ag ha (fun c j z => by omega), ⟨n + 1, by omega, ?_, ?_, fun i hi => ?_⟩, h7.ag ha (fun c j z => by omega), by rw [ha _ _ (by omega), ha _ _ (by omega)]; exact h8, by rw [ha _ _ (by omega), ha _ _ (by omega)]; exact h9, h10.ag ha (fun c j z => by omega), h11.ag ha (fun c j z => by omega)⟩
        · simp [up2]
        · simp [up2]
        · by_cases e : i = n
          · subst e; exact ⟨j, by omega, by simp [up2], by simp [up2]⟩
          · obtain ⟨k, q1, q2, q3⟩ := t4 i (by omega)
            exact ⟨k, q1, by simp [up2, e]; exact q2, by simp [up2, e]; exact q3⟩
  · have c3 : f_X10_in a.toInt64 0 127 = 0 := hm.2 hv
    refine op_0 h (r := -1) ?_ ?_
    · unfold f_X9_feed
      by_cases c1 : a < 0
      · rw [if_pos c1]
      · rw [if_neg c1, if_neg (show ¬ a ≤ (127 : Int32) from fun c2 => hv ((pq0 (n := 127) (by omega)).mp ⟨c1, c2⟩))]
    · unfold f_X10_feed
      rw [if_pos c3]
