/-! the court: runs of hedgehogs over a slope -/
/-- as RX, but with another ground -/
def RXg (b : Nat) (A : Pg) (g : Nat → Nat) (σ : Sg) : Prop := σ b 2 = nI (A 38) ∧ σ b 4 = nI (A 39) ∧ σ b 7 = nI (A 41) ∧ σ b 10 = nI (A 40) ∧ (∀ i, i < A 38 → σ (b + 1) i = nI (A i) ∧ σ (b + 2) i = nI (A (7 + i))) ∧ (∀ i, i < A 39 → σ (b + 3) i = nI (A (14 + i))) ∧ (∀ h, h < A 41 → σ (b + 4) h = nI (A (18 + h)) ∧ σ (b + 5) h = nI (A (22 + h))) ∧ (∀ i, i < A 40 → σ (b + 6) i = nI (A (26 + i)) ∧ σ (b + 7) i = nI (A (32 + i))) ∧ ∀ c, c < 100 → σ (b + 8) c = gI (g c)
theorem RX.g {b : Nat} {A : Pg} {σ : Sg} (h : RX b A σ) : RXg b A (gOf A) σ := h
theorem RXg.rx {b : Nat} {A : Pg} {σ : Sg} (h : RXg b A (gOf A) σ) : RX b A σ := h
theorem RXg.keep {b : Nat} {A : Pg} {g : Nat → Nat} {σ σ' : Sg} (h : RXg b A g σ) (hf : ∀ k, k ≤ 8 → σ' (b + k) = σ (b + k)) : RXg b A g σ' := by
  obtain ⟨h1, h2, h3, h4, h5, h6, h7, h8, h9⟩ := h
  have f0 := hf 0 (by omega)
  rw [Nat.add_zero] at f0
  exact ⟨by rw [f0]; exact h1, by rw [f0]; exact h2, by rw [f0]; exact h3, by rw [f0]; exact h4, fun i hi => by rw [hf 1 (by omega), hf 2 (by omega)]; exact h5 i hi, fun i hi => by rw [hf 3 (by omega)]; exact h6 i hi, fun i hi => by rw [hf 4 (by omega), hf 5 (by omega)]; exact h7 i hi, fun i hi => by rw [hf 6 (by omega), hf 7 (by omega)]; exact h8 i hi, fun c hc => by rw [hf 8 (by omega)]; exact h9 c hc⟩
/-- where the court writes -/
def crt (b : Nat) : Nat → Prop := fun q => q = b + 10 ∨ q = b + 11
theorem RXg.cr {b : Nat} {A : Pg} {g : Nat → Nat} {σ σ' : Sg} (h : RXg b A g σ) (hf : Fr (crt b) σ σ') : RXg b A g σ' := h.keep (fun k hk => hf _ (by unfold crt; omega))
/-- a page all of whose suits are of hedgehogs that it has -/
def WF (A : Pg) : Prop := WFs A ∧ ∀ i, i < A 40 → A (26 + i) < A 41
/-- the winner: 1 + rag, or 0 -/
def wc (A : Pg) (g : Nat → Nat) (h c : Nat) : Nat := if (go g (A (18 + h)) no 10 0 c (A (22 + h)) 0).1 = 0 then 0 else A (7 + ((go g (A (18 + h)) no 10 0 c (A (22 + h)) 0).1 - 1)) + 1
def Wn (A : Pg) (g : Nat → Nat) (i : Nat) : Nat := wc A g (A (26 + i)) (A (32 + i))
theorem go_lt {g : Nat → Nat} {k N : Nat} {o : Nat → Bool} (hg : ∀ x, g x < N + 2) : ∀ n row c sp m, (go g k o n row c sp m).1 < N + 1 := by
  intro n
  induction n with
  | zero => intro row c sp m; simp [go]
  | succ n ih =>
    intro row c sp m
    unfold go
    split
    · simp
    · split
      · exact ih _ _ _ _
      · split
        · have := hg (10 * row + c); simp; omega
        · exact ih _ _ _ _
theorem go_row {g : Nat → Nat} {k : Nat} {o : Nat → Bool} : ∀ n row c sp m, (go g k o n row c sp m).2.1 ≤ row + n := by
  intro n
  induction n with
  | zero => intro row c sp m; simp [go]
  | succ n ih =>
    intro row c sp m
    unfold go
    split
    · simp
    · split
      · have := ih (row + 1) c sp m; omega
      · split
        · simp
        · have := ih (row + 1) (tcol k row c (o row)) (sp - lose k) (m + 1); omega
theorem go_met {g : Nat → Nat} {k : Nat} {o : Nat → Bool} : ∀ n row c sp m, (go g k o n row c sp m).2.2.1 ≤ m + n := by
  intro n
  induction n with
  | zero => intro row c sp m; simp [go]
  | succ n ih =>
    intro row c sp m
    unfold go
    split
    · simp
    · split
      · have := ih (row + 1) c sp m; omega
      · split
        · simp
        · have := ih (row + 1) (tcol k row c (o row)) (sp - lose k) (m + 1); omega
theorem go_open {g : Nat → Nat} {k : Nat} {o : Nat → Bool} : ∀ n row c sp m, (go g k o n row c sp m).2.2.2 ≤ 1 := by
  intro n
  induction n with
  | zero => intro row c sp m; simp [go]
  | succ n ih =>
    intro row c sp m
    unfold go
    split
    · simp
    · split
      · exact ih _ _ _ _
      · split
        · simp
        · exact ih _ _ _ _
/-- the run's end, with the winner's rag -/
def WEnd (b : Nat) (A : Pg) (g : Nat → Nat) (k sp c : Nat) (σ σ' : Sg) : Prop :=
  Fr (crt b) σ σ' ∧ σ' (b + 10) 0 = rI (go g k no 10 0 c sp 0).1 ∧ σ' (b + 10) 1 = rI (if (go g k no 10 0 c sp 0).1 = 0 then 0 else A (7 + ((go g k no 10 0 c sp 0).1 - 1)) + 1) ∧ σ' (b + 10) 2 = nI (go g k no 10 0 c sp 0).2.1 ∧ σ' (b + 10) 3 = nI (go g k no 10 0 c sp 0).2.2.1 ∧ σ' (b + 10) 4 = nI (go g k no 10 0 c sp 0).2.2.2 ∧ ∀ j, j ≤ (go g k no 10 0 c sp 0).2.1 → j < 10 → σ' (b + 11) j = nI (pth g k no 10 0 c sp j)
theorem x_letGoAs {b : Nat} {A : Pg} {g : Nat → Nat} {σ : Sg} {k sp c : Nat} (h : RXg b A g σ) (h7 : A 38 ≤ 7) (hg : ∀ x, g x < A 38 + 2) (hk : k < 4) (hs : sp < 10) (hc : c < 8) :
    Ok (f_X1_follow b b (nI k) (nI sp) (nI c) σ) (WEnd b A g k sp c σ) := by
  obtain ⟨h1, h2, h3, h4, h5, h6, h7', h8, h9⟩ := id h
  refine ok_mono (x_follow (rg := fun i => A (7 + i)) h9 h1 (fun x _ => hg x) h7 (fun i hi => (h5 i hi).2) hk hs hc) ?_
  rintro σ' ⟨q1, q2, q3, q4⟩
  refine ⟨q1, q2, ?_, q4⟩
  rw [q3]
  unfold rI
  by_cases z : (go g k no 10 0 c sp 0).1 = 0
  · rw [if_pos z, if_pos z, if_pos rfl]
  · rw [if_neg z, if_neg z, if_neg (by omega)]
    rfl
theorem x_afresh {b : Nat} {σ : Sg} : Fr (crt b) σ (f_X1_startAfresh b σ) := by
  unfold f_X1_startAfresh app
  exact ((((Fr.rf.up (Or.inl rfl)).up (Or.inl rfl)).up (Or.inl rfl)).up (Or.inl rfl)).up (Or.inl rfl)
theorem WEnd.tr {b : Nat} {A : Pg} {g : Nat → Nat} {k sp c : Nat} {σ σ1 σ2 : Sg} (h1 : Fr (crt b) σ σ1) (h : WEnd b A g k sp c σ1 σ2) : WEnd b A g k sp c σ σ2 := ⟨h1.tr h.1, h.2⟩
theorem x_letGo {b : Nat} {A : Pg} {g : Nat → Nat} {σ : Sg} {i c : Nat} (h : RXg b A g σ) (hW : WFs A) (hg : ∀ x, g x < A 38 + 2) (hi : i < A 41) (hc : c < 8) :
    Ok (f_X2_letGo b (nI i) (nI c) σ) (WEnd b A g (A (18 + i)) (A (22 + i)) c σ) := by
  have w := hW.2.2.2.1
  have w7 := hW.2.2.2.2.2.2.1 i hi
  have hF := x_afresh (b := b) (σ := σ)
  have h' := h.cr hF
  unfold f_X2_letGo
  refine ok_app ?_
  generalize f_X1_startAfresh b σ = σ1 at hF h'
  obtain ⟨-, -, h3, -, -, -, h7, -⟩ := id h'
  refine ok_bind (Q := WEnd b A g (A (18 + i)) (A (22 + i)) c σ) ?_ (fun y hy => ok_some hy)
  refine ok_f (by rw [(xHog h3 (by omega)).1 (vp_in_nI hi (by omega))]; decide) ?_
  refine ok_in (vp_in_nI (by omega) (by omega)) (ok_in (vp_in_nI (by omega) (by omega)) ?_)
  rw [nI_clamp (by omega), (h7 i hi).1, (h7 i hi).2]
  exact ok_bind (x_letGoAs h' hW.1 hg w7.1 (by omega) hc) (fun y hy => ok_some (WEnd.tr hF hy))
theorem x_letGoInSuit {b : Nat} {A : Pg} {g : Nat → Nat} {σ : Sg} {i : Nat} (h : RXg b A g σ) (hW : WF A) (hg : ∀ x, g x < A 38 + 2) (hi : i < A 40) :
    Ok (f_X2_letGoInSuit b (nI i) σ) (WEnd b A g (A (18 + A (26 + i))) (A (22 + A (26 + i))) (A (32 + i)) σ) := by
  obtain ⟨hW, hw⟩ := hW
  have w := hW.2.2.2.1
  have w3 := hW.2.2.1
  have w8 := hW.2.2.2.2.2.2.2.1 i hi
  have w7 := hW.2.2.2.2.2.2.1 _ (hw i hi)
  have hF := x_afresh (b := b) (σ := σ)
  have h' := h.cr hF
  unfold f_X2_letGoInSuit
  refine ok_app ?_
  generalize f_X1_startAfresh b σ = σ1 at hF h'
  obtain ⟨-, -, h3, h4, -, -, h7, h8, -⟩ := id h'
  refine ok_bind (Q := WEnd b A g (A (18 + A (26 + i))) (A (22 + A (26 + i))) (A (32 + i)) σ) ?_ (fun y hy => ok_some hy)
  refine ok_f (by rw [(xSuit h4 (by omega)).1 (vp_in_nI hi (by omega))]; decide) ?_
  have hin : ∀ {X : Type} {t : Option X} {P : X → Prop}, Ok t P → Ok (if inR (nI i) 6 then t else none) P := fun z => ok_in (vp_in_nI (by omega) (by omega)) z
  refine hin ?_
  rw [nI_clamp (by omega), (h8 i hi).1, (h8 i hi).2]
  refine ok_f (by rw [(xHog h3 (by omega)).1 (vp_in_nI (hw i hi) (by omega))]; decide) ?_
  refine hin (ok_app ?_)
  refine ok_in (vp_in_nI (by omega) (by omega)) (ok_in (vp_in_nI (by omega) (by omega)) (hin ?_))
  rw [nI_clamp (by omega), (h7 _ (hw i hi)).1, (h7 _ (hw i hi)).2]
  exact ok_bind (x_letGoAs h' hW.1 hg w7.1 (by omega) w8.2) (fun y hy => ok_some (WEnd.tr hF hy))
/-- a loop that gathers bits -/
theorem bl {b : (Int32 × Int32 × Sg) → Option ((Int32 × Int32 × Sg) ⊕ (Int32 × Int32 × Sg))} {P : Nat → Bool} {Q : Sg → Prop} {i0 n N : Nat} {σ : Sg} (hi0 : i0 ≤ n) (hn : n ≤ 10) (hN : n < N) (hP : ∀ i, i < i0 → P i = false) (h0 : Q σ)
    (hs : ∀ i m s, i0 ≤ i → i < n → Q s → Ok (b (m, nI i, s)) (fun y => ∃ s', y = .inl ((if P i then m ||| ((1 : Int32) <<< (nI i &&& 31)) else m), nI (i + 1), s') ∧ Q s'))
    (he : ∀ m s, Q s → b (m, nI n, s) = some (.inr (m, nI n, s))) : Ok (wh b N (0, nI i0, σ)) (fun e => e.1 = nI (bm P n) ∧ Q e.2.2) := by
  refine wh_0 (P := fun k s => s.1 = nI (bm P (i0 + k)) ∧ s.2.1 = nI (i0 + k) ∧ Q s.2.2) (n - i0) (by omega) ⟨?_, rfl, h0⟩ ?_
  · rw [Nat.add_zero, bm_zero.mpr hP]; rfl
  · rintro k ⟨m, i, s⟩ hk ⟨e1, e2, hQ⟩
    dsimp at e1 e2 hQ
    subst e1 e2
    by_cases hlt : i0 + k < n
    · left
      refine ⟨by omega, ok_mono (hs (i0 + k) _ s (by omega) hlt hQ) ?_⟩
      rintro y ⟨s', rfl, hQ'⟩
      refine ⟨_, rfl, ?_, rfl, hQ'⟩
      by_cases p : P (i0 + k) = true
      · rw [if_pos p, bm_or (by omega) p]
        rfl
      · rw [if_neg p]
        have p' : P (i0 + k) = false := by simpa using p
        rw [show i0 + (k + 1) = i0 + k + 1 from rfl, bm_no p']
    · right
      have e : i0 + k = n := by omega
      rw [e]
      exact ⟨_, he _ s hQ, _, rfl, rfl, hQ⟩
theorem rI_0 : rI 0 = -4 := rfl
theorem rI_s (a : Nat) : rI (a + 1) = nI a := rfl
theorem rI_eq {v a : Nat} (hv : v < 2 ^ 31) (ha : a < 2 ^ 30) : rI v = nI a ↔ v = a + 1 := by
  unfold rI
  by_cases h : v = 0
  · rw [if_pos h]
    constructor
    · intro e; exact absurd e.symm (nneg4 (by omega))
    · omega
  · rw [if_neg h, nI_eq (by omega) (by omega)]
    omega
theorem rI_none {v : Nat} (hv : v < 2 ^ 31) : rI v = -4 ↔ v = 0 := by
  unfold rI
  by_cases h : v = 0
  · simp [h]
  · rw [if_neg h]
    constructor
    · intro e; exact absurd e (nneg4 (by omega))
    · intro e; exact absurd e h
theorem wc_le {A : Pg} {g : Nat → Nat} {h c : Nat} (hW : WFs A) (hg : ∀ x, g x < A 38 + 2) : wc A g h c ≤ 4 := by
  unfold wc
  split
  · omega
  · have := go_lt (k := A (18 + h)) (o := no) hg 10 0 c (A (22 + h)) 0
    have := (hW.2.2.2.2.1 ((go g (A (18 + h)) no 10 0 c (A (22 + h)) 0).1 - 1) (by omega)).2
    omega
/-- a loop over the suits -/
theorem x_suits {b : Nat} {A : Pg} {g : Nat → Nat} {σ : Sg} {P : Nat → Bool} {B : (Int32 × Int32 × Sg) → Option ((Int32 × Int32 × Sg) ⊕ (Int32 × Int32 × Sg))} (h : RXg b A g σ) (hW : WF A) (hg : ∀ x, g x < A 38 + 2)
    (he : ∀ m i s, (s b 10) ≤ i → B (m, i, s) = some (.inr (m, i, s)))
    (hb : ∀ m i s s', ¬ (s b 10) ≤ nI i → i < A 40 → f_X2_letGoInSuit b (nI i) s = some s' → WEnd b A g (A (18 + A (26 + i))) (A (22 + A (26 + i))) (A (32 + i)) s s' → B (m, nI i, s) = some (.inl ((if P i then m ||| ((1 : Int32) <<< (nI i &&& 31)) else m), nI i + 1, s'))) :
    Ok ((wh B 4096 ((0 : Int32), (0 : Int32), σ)).bind fun (e7 : (Int32 × Int32 × Sg)) => some (e7.1, e7.2.2)) (fun y => y.1 = nI (bm P (A 40)) ∧ Fr (crt b) σ y.2) := by
  have w3 := hW.1.2.2.1
  refine ok_bind (bl (P := P) (Q := fun s => Fr (crt b) σ s) (i0 := 0) (n := A 40) (Nat.zero_le _) (by omega) (by omega) (fun i hi => by omega) Fr.rf ?_ ?_) (fun e he => ok_some he)
  · intro i m s _ hi hQ
    have h' := h.cr hQ
    obtain ⟨s', e, hw⟩ := x_letGoInSuit h' hW hg hi
    refine ok_eq (hb m i s s' (by rw [h'.2.2.2.1]; exact nnle hi (by omega)) hi e hw) ⟨s', by rw [nI_1], hQ.tr hw.1⟩
  · intro m s hQ
    have h' := h.cr hQ
    exact he m _ s (by rw [h'.2.2.2.1]; exact nle (Nat.le_refl _) (by omega))
theorem x_wonBy {b a : Nat} {A : Pg} {g : Nat → Nat} {σ : Sg} (h : RXg b A g σ) (hW : WF A) (hg : ∀ x, g x < A 38 + 2) (ha : a < 4) :
    Ok (f_X2_wonBy b (nI a) σ) (fun y => y.1 = nI (bm (fun i => decide (Wn A g i = a + 1)) (A 40)) ∧ Fr (crt b) σ y.2) := by
  unfold f_X2_wonBy
  refine x_suits h hW hg (fun m i s hh => ?_) (fun m i s s' hn hi e hw => ?_)
  · unfold b_X2_wonBy_4; rw [if_pos hh]
  · have hl := wc_le (h := A (26 + i)) (c := A (32 + i)) hW.1 hg
    have q : (s' (b + 10) 1 = nI a) ↔ Wn A g i = a + 1 := by
      rw [hw.2.2.1]
      exact rI_eq (v := wc A g (A (26 + i)) (A (32 + i))) (by omega) (by omega)
    unfold b_X2_wonBy_4
    rw [if_neg hn]
    simp only [e, Option.bind_some, app, q, decide_eq_true_eq]
theorem x_wonByOthers {b a : Nat} {A : Pg} {g : Nat → Nat} {σ : Sg} (h : RXg b A g σ) (hW : WF A) (hg : ∀ x, g x < A 38 + 2) (ha : a < 4) :
    Ok (f_X2_wonByOthers b (nI a) σ) (fun y => y.1 = nI (bm (fun i => decide (Wn A g i ≠ 0) && !decide (Wn A g i = a + 1)) (A 40)) ∧ Fr (crt b) σ y.2) := by
  unfold f_X2_wonByOthers
  refine x_suits h hW hg (fun m i s hh => ?_) (fun m i s s' hn hi e hw => ?_)
  · unfold b_X2_wonByOthers_4; rw [if_pos hh]
  · have hl := wc_le (h := A (26 + i)) (c := A (32 + i)) hW.1 hg
    have q : (s' (b + 10) 1 = nI a) ↔ Wn A g i = a + 1 := by
      rw [hw.2.2.1]
      exact rI_eq (v := wc A g (A (26 + i)) (A (32 + i))) (by omega) (by omega)
    have q0 : (s' (b + 10) 1 = -4) ↔ Wn A g i = 0 := by
      rw [hw.2.2.1]
      exact rI_none (v := wc A g (A (26 + i)) (A (32 + i))) (by omega)
    unfold b_X2_wonByOthers_4
    rw [if_neg hn]
    simp only [e, Option.bind_some, app, q, q0]
    by_cases z0 : Wn A g i = 0
    · simp [z0]
    · by_cases z1 : Wn A g i = a + 1
      · simp [z1]
      · simp [z0, z1]
theorem x_decided {b : Nat} {A : Pg} {g : Nat → Nat} {σ : Sg} (h : RXg b A g σ) (hW : WF A) (hg : ∀ x, g x < A 38 + 2) :
    Ok (f_X2_decided b σ) (fun y => y.1 = nI (bm (fun i => decide (Wn A g i ≠ 0)) (A 40)) ∧ Fr (crt b) σ y.2) := by
  unfold f_X2_decided
  refine x_suits h hW hg (fun m i s hh => ?_) (fun m i s s' hn hi e hw => ?_)
  · unfold b_X2_decided_4; rw [if_pos hh]
  · have hl := wc_le (h := A (26 + i)) (c := A (32 + i)) hW.1 hg
    have q0 : (s' (b + 10) 1 = -4) ↔ Wn A g i = 0 := by
      rw [hw.2.2.1]
      exact rI_none (v := wc A g (A (26 + i)) (A (32 + i))) (by omega)
    unfold b_X2_decided_4
    rw [if_neg hn]
    simp only [e, Option.bind_some, app, q0]
    by_cases z0 : Wn A g i = 0 <;> simp [z0]
/-- the run of a suit -/
def SR (A : Pg) (g : Nat → Nat) (i : Nat) : Nat × Nat × Nat × Nat := go g (A (18 + A (26 + i))) no 10 0 (A (32 + i)) (A (22 + A (26 + i))) 0
theorem x_opened {b : Nat} {A : Pg} {g : Nat → Nat} {σ : Sg} (h : RXg b A g σ) (hW : WF A) (hg : ∀ x, g x < A 38 + 2) :
    Ok (f_X2_opened b σ) (fun y => y.1 = nI (bm (fun i => decide ((SR A g i).2.2.2 ≠ 0)) (A 40)) ∧ Fr (crt b) σ y.2) := by
  unfold f_X2_opened
  refine x_suits h hW hg (fun m i s hh => ?_) (fun m i s s' hn hi e hw => ?_)
  · unfold b_X2_opened_4; rw [if_pos hh]
  · have hl := go_open (g := g) (k := A (18 + A (26 + i))) (o := no) 10 0 (A (32 + i)) (A (22 + A (26 + i))) 0
    have q0 : (s' (b + 10) 4 = 0) ↔ (SR A g i).2.2.2 = 0 := by
      rw [hw.2.2.2.2.2.1]
      exact nI_eq (b := 0) (by omega) (by omega)
    unfold b_X2_opened_4
    rw [if_neg hn]
    simp only [e, Option.bind_some, app, q0]
    by_cases z0 : (SR A g i).2.2.2 = 0 <;> simp [z0]
theorem x_restedOn {b a : Nat} {A : Pg} {g : Nat → Nat} {σ : Sg} (h : RXg b A g σ) (hW : WF A) (hg : ∀ x, g x < A 38 + 2) (ha : a < 7) :
    Ok (f_X2_restedOn b (nI a) σ) (fun y => y.1 = nI (bm (fun i => decide ((SR A g i).1 = a + 1)) (A 40)) ∧ Fr (crt b) σ y.2) := by
  have w1 := hW.1.1
  unfold f_X2_restedOn
  refine x_suits h hW hg (fun m i s hh => ?_) (fun m i s s' hn hi e hw => ?_)
  · unfold b_X2_restedOn_4; rw [if_pos hh]
  · have hl := go_lt (k := A (18 + A (26 + i))) (o := no) hg 10 0 (A (32 + i)) (A (22 + A (26 + i))) 0
    have q : (s' (b + 10) 0 = nI a) ↔ (SR A g i).1 = a + 1 := by
      rw [hw.2.1]
      exact rI_eq (by omega) (by omega)
    unfold b_X2_restedOn_4
    rw [if_neg hn]
    simp only [e, Option.bind_some, app, q, decide_eq_true_eq]
/-- a loop over the columns -/
theorem x_columns {b h : Nat} {A : Pg} {g : Nat → Nat} {σ : Sg} {P : Nat → Bool} {B : (Int32 × Int32 × Sg) → Option ((Int32 × Int32 × Sg) ⊕ (Int32 × Int32 × Sg))} (hX : RXg b A g σ) (hW : WFs A) (hg : ∀ x, g x < A 38 + 2) (hh : h < A 41)
    (he : ∀ m i s, (8 : Int32) ≤ i → B (m, i, s) = some (.inr (m, i, s)))
    (hb : ∀ m i s s', ¬ (8 : Int32) ≤ nI i → i < 8 → f_X2_letGo b (nI h) (nI i) s = some s' → WEnd b A g (A (18 + h)) (A (22 + h)) i s s' → B (m, nI i, s) = some (.inl ((if P i then m ||| ((1 : Int32) <<< (nI i &&& 31)) else m), nI i + 1, s'))) :
    Ok ((wh B 4096 ((0 : Int32), (0 : Int32), σ)).bind fun (e7 : (Int32 × Int32 × Sg)) => some (e7.1, e7.2.2)) (fun y => y.1 = nI (bm P 8) ∧ Fr (crt b) σ y.2) := by
  refine ok_bind (bl (P := P) (Q := fun s => Fr (crt b) σ s) (i0 := 0) (n := 8) (Nat.zero_le _) (by omega) (by omega) (fun i hi => by omega) Fr.rf ?_ ?_) (fun e he => ok_some he)
  · intro i m s _ hi hQ
    have h' := hX.cr hQ
    obtain ⟨s', e, hw⟩ := x_letGo h' hW hg hh hi
    refine ok_eq (hb m i s s' (show ¬ nI 8 ≤ nI i from nnle hi (by omega)) hi e hw) ⟨s', by rw [nI_1], hQ.tr hw.1⟩
  · intro m s hQ
    exact he m _ s (by decide)
theorem x_restingColumns {b h : Nat} {A : Pg} {g : Nat → Nat} {σ : Sg} (hX : RXg b A g σ) (hW : WFs A) (hg : ∀ x, g x < A 38 + 2) (hh : h < A 41) :
    Ok (f_X2_restingColumns b (nI h) σ) (fun y => y.1 = nI (bm (fun c => decide ((go g (A (18 + h)) no 10 0 c (A (22 + h)) 0).1 ≠ 0)) 8) ∧ Fr (crt b) σ y.2) := by
  have w1 := hW.1
  unfold f_X2_restingColumns
  refine x_columns hX hW hg hh (fun m i s hq => ?_) (fun m i s s' hn hi e hw => ?_)
  · unfold b_X2_restingColumns_4; rw [if_pos hq]
  · have hl := go_lt (k := A (18 + h)) (o := no) hg 10 0 i (A (22 + h)) 0
    have q0 : (s' (b + 10) 0 = -4) ↔ (go g (A (18 + h)) no 10 0 i (A (22 + h)) 0).1 = 0 := by
      rw [hw.2.1]
      exact rI_none (by omega)
    unfold b_X2_restingColumns_4
    rw [if_neg hn]
    simp only [e, Option.bind_some, app, q0]
    by_cases z0 : (go g (A (18 + h)) no 10 0 i (A (22 + h)) 0).1 = 0 <;> simp [z0]
theorem x_winningColumns {b h a : Nat} {A : Pg} {g : Nat → Nat} {σ : Sg} (hX : RXg b A g σ) (hW : WFs A) (hg : ∀ x, g x < A 38 + 2) (hh : h < A 41) (ha : a < 4) :
    Ok (f_X2_winningColumns b (nI h) (nI a) σ) (fun y => y.1 = nI (bm (fun c => decide (wc A g h c = a + 1)) 8) ∧ Fr (crt b) σ y.2) := by
  unfold f_X2_winningColumns
  refine x_columns hX hW hg hh (fun m i s hq => ?_) (fun m i s s' hn hi e hw => ?_)
  · unfold b_X2_winningColumns_5; rw [if_pos hq]
  · have hl := wc_le (h := h) (c := i) hW hg
    have q : (s' (b + 10) 1 = nI a) ↔ wc A g h i = a + 1 := by
      rw [hw.2.2.1]
      exact rI_eq (v := wc A g h i) (by omega) (by omega)
    unfold b_X2_winningColumns_5
    rw [if_neg hn]
    simp only [e, Option.bind_some, app, q, decide_eq_true_eq]
