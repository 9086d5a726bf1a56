/-! kindly, need -/
def wcK (A : Pg) (g : Nat → Nat) (k s c : Nat) : Nat := if (go g k no 10 0 c s 0).1 = 0 then 0 else A (7 + ((go g k no 10 0 c s 0).1 - 1)) + 1
theorem wcK_congr {A B : Pg} {k s c : Nat} (h7 : A 38 ≤ 7) (hg : ∀ x, gOf A x = gOf B x) (h : ∀ j, j < 7 → A (7 + j) = B (7 + j)) : wcK A (gOf A) k s c = wcK B (gOf B) k s c := by
  have e : gOf A = gOf B := funext hg
  have hl := go_lt (k := k) (o := no) (gOf_lt2 (A := A)) 10 0 c s 0
  unfold wcK
  rw [← e]
  by_cases z : (go (gOf A) k no 10 0 c s 0).1 = 0
  · rw [if_pos z, if_pos z]
  · rw [if_neg z, if_neg z, h _ (by omega)]
theorem pu_pu (A : Pg) (j v k : Nat) : pu (pu A j v) j k = pu A j k := by
  funext i
  unfold pu
  by_cases e : i = j
  · rw [if_pos e, if_pos e]
  · rw [if_neg e, if_neg e, if_neg e]
theorem pu_id (A : Pg) (j : Nat) : pu A j (A j) = A := by
  funext i
  unfold pu
  by_cases e : i = j
  · rw [if_pos e, e]
  · rw [if_neg e]
theorem Same.pg {σ σ1 : Sg} (h : Agr (Pgp 164) σ σ1) : Same σ σ1 := ⟨fun c hc => funext fun j => h c j (by unfold Pgp; omega), fun j _ => h 75 j (by unfold Pgp; omega), fun k hk => h 76 k (by unfold Pgp; omega)⟩
theorem n9 {j : Nat} (h : j ≤ 9) : ¬ (9 : Int32) < nI j := fun z => by
  have := (nlt_iff (n := 9) (by omega)).mp z
  rw [nI_toInt (by omega)] at this
  omega
theorem x_letGoAs' {b : Nat} {A : Pg} {g : Nat → Nat} {σ : Sg} {k sp c : Nat} (h : RXg b A g σ) (h7 : A 38 ≤ 7) (hg : ∀ x, g x < A 38 + 2) (hk : k < 4) (hs : sp < 10) (hc : c < 8) : Ok (f_X2_letGoAs b (nI k) (nI sp) (nI c) σ) (WEnd b A g k sp c σ) := ok_bind (x_letGoAs h h7 hg hk hs hc) (fun _ hy => ok_some hy)
theorem op_kindly {σ : Sg} (h : Inv σ) (a d r : Int32) : Op (f_X9_kindly a d r σ) (f_X10_kindly a d r) := by
  obtain ⟨A, I, h⟩ := h
  have hW := h.2.2.2.1
  have w1 := hW.1.1
  have w2 := hW.1.2.1
  have w4 := hW.1.2.2.2.1
  have xcn := x_can (a := a) (d := d) h.1.2.2.1 (by omega)
  have mc := mCol (x := d)
  by_cases hv : vp_in a (A 41) ∧ vp_in d 8
  · obtain ⟨hva, hvd⟩ := id hv
    by_cases hr : vp_in r 4
    · obtain ⟨i, hi, rfl⟩ := vin_nI hva (by omega)
      obtain ⟨c, hc, rfl⟩ := vin_nI hvd (by omega)
      obtain ⟨k, hk, rfl⟩ := vin_nI hr (by omega)
      have w7 := hW.1.2.2.2.2.2.2.1 i hi
      have hle : ∀ j, wcK A (gOf A) j (A (22 + i)) c ≤ 4 := fun j => by
        unfold wcK
        split
        · omega
        · have := go_lt (k := j) (o := no) (gOf_lt2 (A := A)) 10 0 c (A (22 + i)) 0
          have := (hW.1.2.2.2.2.1 ((go (gOf A) j no 10 0 c (A (22 + i)) 0).1 - 1) (by omega)).2
          omega
      refine op_q h (r := nI (bm (fun j => decide (wcK A (gOf A) j (A (22 + i)) c = k + 1)) 4)) ?_ (fun σ1 h' => ?_)
      · unfold f_X9_kindly
        rw [xcn.1 hv, xRag.1 hr, if_neg z10, if_neg z10]
        refine ok_bind (bl (Q := fun s => Fr (crt 1) σ s) (i0 := 0) (n := 4) (by omega) (by omega) (by omega) (fun i hi => by omega) Fr.rf ?_ ?_) (fun e he => ok_some ⟨he.1, sx he.2 (Or.inl rfl)⟩)
        · intro j m s _ hj hQ
          have hX := h.1.g.cr hQ
          unfold b_X9_kindly_24
          dsimp +instances only
          refine ok_f (show ¬ nI 4 ≤ nI j from nnle hj (by omega)) (ok_in (vp_in_nI (by omega) (by omega)) ?_)
          rw [nI_clamp (by omega), show s 6 i = nI (A (22 + i)) from (hX.2.2.2.2.2.2.1 i hi).2]
          refine ok_bind (x_letGoAs' (sp := A (22 + i)) hX w1 gOf_lt2 hj (by omega) hc) (fun y hy => ok_app (ok_some ⟨y, ?_, hQ.tr hy.1⟩))
          have q : (y 11 1 = nI k) ↔ wcK A (gOf A) j (A (22 + i)) c = k + 1 := by
            rw [show y 11 1 = _ from hy.2.2.1]
            have := hle j
            exact rI_eq (v := wcK A (gOf A) j (A (22 + i)) c) (by omega) (by omega)
          rw [nI_1]
          simp only [app, q, decide_eq_true_eq]
        · intro m s hQ
          unfold b_X9_kindly_24
          dsimp +instances only
          rw [if_pos (by decide)]
      · unfold f_X10_kindly
        rw [(mHog (x := nI i) h'.2.2.1 (by omega)).1 hva, mc.1 hvd, mRag.1 hr, if_neg z10, if_neg z10, if_neg z10]
        refine ok_bind (m_copies (p := 0) (q := 164) h'.2.1 (by omega) (by omega) (by omega)) (fun s0 hs0 => ?_)
        refine ok_bind (bl (P := fun j => decide (wcK A (gOf A) j (A (22 + i)) c = k + 1)) (Q := fun s => Same σ1 s ∧ ∃ v, v < 4 ∧ RM 164 (pu A (18 + i) v) s) (i0 := 0) (n := 4) (by omega) (by omega) (by omega) (fun i hi => by omega) ⟨Same.pg hs0.2, A (18 + i), w7.1, by rw [pu_id]; exact hs0.1⟩ ?_ ?_) (fun e he => ok_some ⟨he.1, he.2.1⟩)
        · rintro j m s _ hj ⟨hQ, v, hv4, hM⟩
          unfold b_X10_kindly_38
          dsimp +instances only
          refine ok_f (show ¬ nI 4 ≤ nI j from nnle hj (by omega)) ?_
          rw [show (182 : Int32) + nI i = nI (164 + (18 + i)) from by rw [show (182 : Int32) = nI 182 from rfl, nI_add, show 182 + i = 164 + (18 + i) by omega], nI_clamp (by omega)]
          refine ok_in (vp_in_nI (by omega) (by omega)) (ok_app ?_)
          have hM2 := hM.pu (k := 18 + i) (v := j)
          rw [pu_pu] at hM2
          have hWB := (pHogs (o := 4) (v := j) h.1 hW.1 hi (Or.inl ⟨rfl, hj⟩)).2
          have eB : ∀ x, x ≠ 18 + i → pu A (18 + i) j x = A x := fun x hx => pu_n _ _ hx
          have eS : pu A (18 + i) j (18 + i) = j := pu_s _ _ _
          refine ok_bind (m_winnerOn (p := 164) hM2 (by omega) hWB (by rw [eB _ (by omega)]; exact hi) hc) (fun y hy => ok_app (ok_some ⟨y.2, ?_, (hQ.p (by omega)).tr (Same.m hy.2.1), j, hj, hM2.fr hy.2.1⟩))
          have ew : wc (pu A (18 + i) j) (gOf (pu A (18 + i) j)) i c = wcK A (gOf A) j (A (22 + i)) c := by
            show wcK _ _ _ _ _ = _
            rw [eS, eB (22 + i) (by omega)]
            exact (wcK_congr w1 (fun x => gOf_congr (fun l hl => (eB l (by omega)).symm) w1 w2 x) (fun l hl => (eB _ (by omega)).symm)).symm
          have q : (y.1 = nI k) ↔ wcK A (gOf A) j (A (22 + i)) c = k + 1 := by
            rw [hy.1, ew]
            have := hle j
            exact rI_eq (by omega) (by omega)
          rw [nI_1]
          by_cases z : wcK A (gOf A) j (A (22 + i)) c = k + 1
          · simp [q, z]
          · simp [q, z, or0]
        · rintro m s ⟨hQ, -⟩
          unfold b_X10_kindly_38
          dsimp +instances only
          rw [if_pos (by decide)]
    · refine op_0 h (r := -1) ?_ ?_
      · unfold f_X9_kindly
        rw [xcn.1 hv, xRag.2 hr, if_neg z10, if_pos rfl]
      · unfold f_X10_kindly
        rw [(mHog (x := a) h.2.2.1 (by omega)).1 hva, mc.1 hvd, mRag.2 hr, if_neg z10, if_neg z10, if_pos rfl]
  · refine op_0 h (r := -1) ?_ ?_
    · unfold f_X9_kindly
      rw [xcn.2 hv, if_pos rfl]
    · unfold f_X10_kindly
      by_cases q1 : vp_in a (A 41)
      · rw [mc.2 (fun z => hv ⟨q1, z⟩), if_pos rfl, ite_self]
      · rw [(mHog (x := a) h.2.2.1 (by omega)).2 q1, if_pos rfl]
/-- how a search for the first speed ends -/
def FS (P : Nat → Prop) (N : Sg → Prop) (r : (Int32 × Sg) ⊕ (Int32 × Sg)) : Prop := (∃ x, r = .inl x ∧ N x.2 ∧ ∀ j, 1 ≤ j → j < 10 → ¬ P j) ∨ ∃ x i, r = .inr x ∧ N x.2 ∧ 1 ≤ i ∧ i < 10 ∧ x.1 = nI i ∧ P i ∧ ∀ j, 1 ≤ j → j < i → ¬ P j
theorem fs_loop {B : (Int32 × Sg) → Option ((Int32 × Sg) ⊕ ((Int32 × Sg) ⊕ (Int32 × Sg)))} {P : Nat → Prop} {N : Sg → Prop} {σ : Sg} (h0 : N σ) (he : ∀ s, B (nI 10, s) = some (.inr (.inl (nI 10, s)))) (hs : ∀ i s, 1 ≤ i → i < 10 → N s → ∃ s', N s' ∧ ((P i ∧ B (nI i, s) = some (.inr (.inr (nI i, s')))) ∨ (¬ P i ∧ B (nI i, s) = some (.inl (nI (i + 1), s'))))) : Ok (wh B 4096 ((1 : Int32), σ)) (FS P N) := by
  refine wh_0 (P := fun k s => s.1 = nI (1 + k) ∧ N s.2 ∧ ∀ j, 1 ≤ j → j < 1 + k → ¬ P j) 9 (by omega) ⟨rfl, h0, fun j h1 h2 => by omega⟩ ?_
  rintro k ⟨x, s⟩ hk ⟨e1, hN, hj⟩
  dsimp at e1 hN
  subst e1
  by_cases hlt : k < 9
  · obtain ⟨s', hN', ⟨p, e⟩ | ⟨p, e⟩⟩ := hs (1 + k) s (by omega) (by omega) hN
    · right
      rw [e]
      exact ok_some ⟨_, rfl, Or.inr ⟨_, 1 + k, rfl, hN', by omega, by omega, rfl, p, hj⟩⟩
    · left
      rw [e]
      refine ⟨hlt, ok_some ⟨_, rfl, rfl, hN', fun j h1 h2 => ?_⟩⟩
      by_cases z : j = 1 + k
      · rw [z]; exact p
      · exact hj j h1 (by omega)
  · right
    obtain rfl : k = 9 := by omega
    exact ok_eq (he s) ⟨_, rfl, Or.inl ⟨_, rfl, hN, hj⟩⟩
theorem fs_same {P : Nat → Prop} {N M : Sg → Prop} {r r' : (Int32 × Sg) ⊕ (Int32 × Sg)} (h : FS P N r) (h' : FS P M r') : ∃ v s s', N s ∧ M s' ∧ Sum.elim (fun (e7 : (Int32 × Sg)) => some ((-4 : Int32), e7.2)) (fun (y8 : (Int32 × Sg)) => some y8) r = some (v, s) ∧ Sum.elim (fun (e7 : (Int32 × Sg)) => some ((-4 : Int32), e7.2)) (fun (y8 : (Int32 × Sg)) => some y8) r' = some (v, s') := by
  rcases h with ⟨⟨x, s⟩, rfl, h1, h2⟩ | ⟨⟨x, s⟩, i, rfl, h1, a1, a2, a3, a4, a5⟩
  · rcases h' with ⟨⟨x', s'⟩, rfl, g1, g2⟩ | ⟨⟨x', s'⟩, i', rfl, g1, b1, b2, b3, b4, b5⟩
    · exact ⟨-4, s, s', h1, g1, rfl, rfl⟩
    · exact absurd b4 (h2 i' b1 b2)
  · rcases h' with ⟨⟨x', s'⟩, rfl, g1, g2⟩ | ⟨⟨x', s'⟩, i', rfl, g1, b1, b2, b3, b4, b5⟩
    · exact absurd a4 (g2 i a1 a2)
    · dsimp at a3 b3 h1 g1
      have e : i = i' := by
        rcases Nat.lt_trichotomy i i' with z | z | z
        · exact absurd a4 (b5 i a1 z)
        · exact z
        · exact absurd b4 (a5 i' b1 z)
      refine ⟨nI i, s, s', h1, g1, ?_, ?_⟩
      · rw [← a3]; rfl
      · rw [e, ← b3]; rfl
theorem op_need {σ : Sg} (h : Inv σ) (a d : Int32) : Op (f_X9_need a d σ) (f_X10_need a d) := by
  obtain ⟨A, I, h⟩ := h
  have hW := h.2.2.2.1
  have w1 := hW.1.1
  have w2 := hW.1.2.1
  have w4 := hW.1.2.2.2.1
  have xcn := x_can (a := a) (d := d) h.1.2.2.1 (by omega)
  have mc := mCol (x := d)
  by_cases hv : vp_in a (A 41) ∧ vp_in d 8
  · obtain ⟨hva, hvd⟩ := id hv
    obtain ⟨i, hi, rfl⟩ := vin_nI hva (by omega)
    obtain ⟨c, hc, rfl⟩ := vin_nI hvd (by omega)
    have w7 := hW.1.2.2.2.2.2.2.1 i hi
    obtain ⟨r, g1, g2⟩ := fs_loop (B := b_X9_need_13 (nI i) (nI c)) (P := fun s => (go (gOf A) (A (18 + i)) no 10 0 c s 0).2.1 = 10) (N := fun s => Fr (crt 1) σ s) (σ := σ) Fr.rf (fun s => by unfold b_X9_need_13; dsimp +instances only; rw [if_pos (by decide)]) (fun j s hj1 hj hQ => by
      have hX := h.1.g.cr hQ
      obtain ⟨y, e, hy⟩ := x_letGoAs (k := A (18 + i)) (sp := j) (c := c) hX w1 gOf_lt2 w7.1 (by omega) hc
      have e' : f_X2_letGoAs 1 (nI (A (18 + i))) (nI j) (nI c) s = some y := by unfold f_X2_letGoAs; rw [e]; rfl
      have e2 : y 11 2 = nI (go (gOf A) (A (18 + i)) no 10 0 c j 0).2.1 := hy.2.2.2.1
      have hr := go_row (g := gOf A) (k := A (18 + i)) (o := no) 10 0 c j 0
      refine ⟨y, hQ.tr hy.1, ?_⟩
      unfold b_X9_need_13
      dsimp +instances only
      rw [if_neg (show ¬ (9 : Int32) < nI j from n9 (by omega)), if_pos (inR_of (vp_in_nI (by omega) (by omega))), nI_clamp (by omega), show s 5 i = nI (A (18 + i)) from (hX.2.2.2.2.2.2.1 i hi).1, e', Option.bind_some, e2]
      by_cases z : (go (gOf A) (A (18 + i)) no 10 0 c j 0).2.1 = 10
      · exact Or.inl ⟨z, by rw [z, if_pos (by decide)]⟩
      · exact Or.inr ⟨z, by rw [if_neg (show ¬ nI _ = 10 from nne (b := 10) z (by omega) (by omega)), nI_1]⟩)
    have hs1 : ∀ s, Fr (crt 1) σ s → InvA A I s := fun s z => h.same (sx z (Or.inl rfl))
    have hm : ∀ σ1, InvA A I σ1 → Ok ((f_X10_copies (0 : Int32) (164 : Int32) σ1).bind fun (y3 : Sg) => wh (b_X10_need_27 (nI i) (nI c)) 4096 ((1 : Int32), y3)) (FS (fun s => (go (gOf A) (A (18 + i)) no 10 0 c s 0).2.1 = 10) (fun s => Same σ1 s)) := fun σ1 h' => by
      refine ok_bind (m_copies (p := 0) (q := 164) h'.2.1 (by omega) (by omega) (by omega)) (fun s0 hs0 => ?_)
      have := fs_loop (B := b_X10_need_27 (nI i) (nI c)) (P := fun s => (go (gOf A) (A (18 + i)) no 10 0 c s 0).2.1 = 10) (N := fun s => Same σ1 s ∧ ∃ v, 1 ≤ v ∧ v ≤ 9 ∧ RM 164 (pu A (22 + i) v) s) (σ := s0) ⟨Same.pg hs0.2, A (22 + i), w7.2.1, w7.2.2, by rw [pu_id]; exact hs0.1⟩ (fun s => by unfold b_X10_need_27; dsimp +instances only; rw [if_pos (by decide)]) (fun j s hj1 hj hQ => by
        obtain ⟨hQ, v, hv1, hv9, hM⟩ := hQ
        have hM2 := hM.pu (k := 22 + i) (v := j)
        rw [pu_pu] at hM2
        have hWB := (pHogs (o := 5) (v := j) h.1 hW.1 hi (Or.inr ⟨rfl, by omega, by omega⟩)).2
        have eB : ∀ x, x ≠ 22 + i → pu A (22 + i) j x = A x := fun x hx => pu_n _ _ hx
        have eS : pu A (22 + i) j (22 + i) = j := pu_s _ _ _
        have eg : gOf (pu A (22 + i) j) = gOf A := funext fun x => (gOf_congr (fun l hl => (eB l (by omega)).symm) w1 w2 x).symm
        obtain ⟨y, e, hy⟩ := m_runs0 (p := 164) hM2 (by omega) hWB (show i < pu A (22 + i) j 41 by rw [eB _ (by omega)]; exact hi) hc
        have e2 : y 75 17 = nI (go (gOf A) (A (18 + i)) no 10 0 c j 0).2.1 := by
          rw [hy.2.2.1, eS, eB _ (by omega), eg]
        have hr := go_row (g := gOf A) (k := A (18 + i)) (o := no) 10 0 c j 0
        refine ⟨y, ⟨(hQ.p (by omega)).tr (Same.m hy.1), j, by omega, by omega, hM2.fr hy.1⟩, ?_⟩
        unfold b_X10_need_27
        dsimp +instances only
        have e' : f_X10_runsOn 164 (nI i) (nI c) 0 (up2 s 76 (164 + (22 + i)) (nI j)) = some y := e
        rw [if_neg (show ¬ (9 : Int32) < nI j from n9 (by omega)), show (186 : Int32) + nI i = nI (164 + (22 + i)) from by rw [show (186 : Int32) = nI 186 from rfl, nI_add, show 186 + i = 164 + (22 + i) by omega], if_pos (inR_of (vp_in_nI (by omega) (by omega))), nI_clamp (by omega)]
        simp only [app]
        rw [e', Option.bind_some, e2]
        by_cases z : (go (gOf A) (A (18 + i)) no 10 0 c j 0).2.1 = 10
        · exact Or.inl ⟨z, by rw [z, if_pos (by decide)]⟩
        · exact Or.inr ⟨z, by rw [if_neg (show ¬ nI _ = 10 from nne (b := 10) z (by omega) (by omega)), nI_1]⟩)
      refine ok_mono this (fun y hy => ?_)
      rcases hy with ⟨x, q1, q2, q3⟩ | ⟨x, l, q1, q2, q3⟩
      · exact Or.inl ⟨x, q1, q2.1, q3⟩
      · exact Or.inr ⟨x, l, q1, q2.1, q3⟩
    have ex : f_X9_need (nI i) (nI c) σ = Sum.elim (fun (e7 : (Int32 × Sg)) => some ((-4 : Int32), e7.2)) (fun (y8 : (Int32 × Sg)) => some y8) r := by
      unfold f_X9_need
      rw [xcn.1 hv, if_neg z10, g1, Option.bind_some]
    have hF : ∃ v s, Fr (crt 1) σ s ∧ Sum.elim (fun (e7 : (Int32 × Sg)) => some ((-4 : Int32), e7.2)) (fun (y8 : (Int32 × Sg)) => some y8) r = some (v, s) := by
      obtain ⟨v, s, s', z1, z2, z3, z4⟩ := fs_same g2 g2
      exact ⟨v, s, z1, z3⟩
    obtain ⟨v, σ1, hF1, er⟩ := hF
    have h' := hs1 σ1 hF1
    obtain ⟨r', f1, f2⟩ := hm σ1 h'
    obtain ⟨v', s, s', z1, z2, z3, z4⟩ := fs_same g2 f2
    rw [er] at z3
    injection z3 with z3
    injection z3 with z5 z6
    subst z5 z6
    refine ⟨v, σ1, s', by rw [ex, er], ?_, A, I, h'.same z2⟩
    unfold f_X10_need
    rw [(mHog (x := nI i) h'.2.2.1 (by omega)).1 hva, mc.1 hvd, if_neg z10, if_neg z10]
    cases hcp : f_X10_copies (0 : Int32) (164 : Int32) σ1 with
    | none => rw [hcp] at f1; cases f1
    | some y3 =>
      rw [hcp, Option.bind_some] at f1
      rw [Option.bind_some, f1, Option.bind_some]
      exact z4
  · refine op_0 h (r := -1) ?_ ?_
    · unfold f_X9_need
      rw [xcn.2 hv, if_pos rfl]
    · unfold f_X10_need
      by_cases q1 : vp_in a (A 41)
      · rw [mc.2 (fun z => hv ⟨q1, z⟩), if_pos rfl, ite_self]
      · rw [(mHog (x := a) h.2.2.1 (by omega)).2 q1, if_pos rfl]
