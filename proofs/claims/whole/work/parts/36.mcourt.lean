/-! the reference's court -/
theorem gOf_lt2 {A : Pg} : ∀ x, gOf A x < A 38 + 2 := fun _ => gOf_lt
theorem zsh : ∀ r, r < 10 → ((((0 : Int32) >>> (nI r &&& 31)) &&& (1 : Int32)) = 1 ↔ no r = true) := by decide
theorem m_runs0 {p h c : Nat} {A : Pg} {σ : Sg} (hM : RM p A σ) (hp : p + 41 ≤ 205) (hW : WFs A) (hh : h < A 41) (hc : c < 8) : Ok (f_X10_runsOn (nI p) (nI h) (nI c) 0 σ) (MEnd (gOf A) (A (18 + h)) (A (22 + h)) c no σ) := by
  have w := hW.2.2.2.1
  have w7 := hW.2.2.2.2.2.2.1 h hh
  exact m_runsOn hM hp hW (by omega) w7.1 (by omega) hc zsh
theorem nI_add3 (a b c : Nat) : nI a + nI b + nI c = nI (a + (b + c)) := by rw [nI_add, nI_add, Nat.add_assoc]
theorem m_winnerOn {p h c : Nat} {A : Pg} {σ : Sg} (hM : RM p A σ) (hp : p + 41 ≤ 205) (hW : WFs A) (hh : h < A 41) (hc : c < 8) : Ok (f_X10_winnerOn (nI p) (nI h) (nI c) σ) (fun y => y.1 = rI (wc A (gOf A) h c) ∧ MEnd (gOf A) (A (18 + h)) (A (22 + h)) c no σ y.2) := by
  have w1 := hW.1
  unfold f_X10_winnerOn
  refine ok_bind (m_runs0 hM hp hW hh hc) (fun y hy => ?_)
  obtain ⟨q1, q2, q3⟩ := id hy
  have hl := go_lt (k := A (18 + h)) (o := no) (gOf_lt2 (A := A)) 10 0 c (A (22 + h)) 0
  unfold wc
  rw [q2]
  by_cases z : (go (gOf A) (A (18 + h)) no 10 0 c (A (22 + h)) 0).1 = 0
  · rw [z, if_pos rI_0, if_pos rfl]
    exact ok_some ⟨rfl, hy⟩
  · obtain ⟨v, hv⟩ : ∃ v, (go (gOf A) (A (18 + h)) no 10 0 c (A (22 + h)) 0).1 = v + 1 := ⟨_, (Nat.succ_pred z).symm⟩
    rw [hv] at hl ⊢
    rw [rI_s, if_neg (nneg4 (by omega)), if_neg (show ¬ v + 1 = 0 by omega), show (7 : Int32) = nI 7 from rfl, nI_add3]
    refine ok_in (vp_in_nI (by omega) (by omega)) (ok_some ⟨?_, hy⟩)
    rw [nI_clamp (by omega), hM.fr q1 (7 + v) (by omega)]
    rfl
theorem m_winsG {p : Nat} {a : Int32} {P : Nat → Bool} {A : Pg} {σ : Sg} (hM : RM p A σ) (hp : p + 41 ≤ 205) (hW : WF A)
    (hq : ∀ i, i < A 40 → (if rI (Wn A (gOf A) i) = -4 then (0 : Int32) else if a = -4 then ((1 : Int32) <<< (nI i &&& 31)) else if rI (Wn A (gOf A) i) = a then ((1 : Int32) <<< (nI i &&& 31)) else 0) = if P i then ((1 : Int32) <<< (nI i &&& 31)) else 0) :
    Ok (f_X10_winsOn (nI p) a σ) (fun y => y.1 = nI (bm P (A 40)) ∧ FrM σ y.2) := by
  obtain ⟨hW, hw⟩ := hW
  have w3 := hW.2.2.1
  unfold f_X10_winsOn
  refine ok_bind (bl (P := P) (Q := fun s => FrM σ s) (i0 := 0) (n := A 40) (Nat.zero_le _) (by omega) (by omega) (fun i hi => by omega) FrM.rf ?_ ?_) (fun e he => ok_some he)
  · intro i m s _ hi hQ
    have h' := hM.fr hQ
    have w8 := hW.2.2.2.2.2.2.2.1 i hi
    unfold b_X10_winsOn_5
    dsimp +instances only
    rw [show (40 : Int32) = nI 40 from rfl, nI_add, show (26 : Int32) = nI 26 from rfl, nI_add3, show (32 : Int32) = nI 32 from rfl, nI_add3]
    refine ok_in (vp_in_nI (by omega) (by omega)) ?_
    rw [nI_clamp (by omega), h' 40 (by omega)]
    refine ok_f (nnle hi (by omega)) (ok_in (vp_in_nI (by omega) (by omega)) (ok_in (vp_in_nI (by omega) (by omega)) ?_))
    rw [nI_clamp (by omega), nI_clamp (by omega), h' (26 + i) (by omega), h' (32 + i) (by omega)]
    refine ok_bind (m_winnerOn h' hp hW (hw i hi) w8.2) (fun y hy => ok_app (ok_some ⟨_, ?_, hQ.tr hy.2.1⟩))
    have := hq i hi
    unfold Wn at this
    rw [hy.1, this, nI_1]
    by_cases z : P i = true
    · rw [if_pos z, if_pos z]
    · rw [if_neg z, if_neg z, or0]
  · intro m s hQ
    have h' := hM.fr hQ
    unfold b_X10_winsOn_5
    dsimp +instances only
    rw [show (40 : Int32) = nI 40 from rfl, nI_add, if_pos (inR_of (vp_in_nI (by omega) (by omega))), nI_clamp (by omega), h' 40 (by omega), if_pos (nle (Nat.le_refl _) (by omega))]
theorem m_wins {p a : Nat} {A : Pg} {σ : Sg} (hM : RM p A σ) (hp : p + 41 ≤ 205) (hW : WF A) (ha : a < 4) :
    Ok (f_X10_winsOn (nI p) (nI a) σ) (fun y => y.1 = nI (bm (fun i => decide (Wn A (gOf A) i = a + 1)) (A 40)) ∧ FrM σ y.2) := by
  refine m_winsG hM hp hW (fun i hi => ?_)
  have hl : Wn A (gOf A) i ≤ 4 := wc_le hW.1 gOf_lt2
  rw [if_neg (nneg4 (n := a) (by omega))]
  simp only [rI_none (v := Wn A (gOf A) i) (by omega), rI_eq (v := Wn A (gOf A) i) (a := a) (by omega) (by omega)]
  by_cases z : Wn A (gOf A) i = 0
  · simp [z]
  · simp [z]
theorem m_winsAny {p : Nat} {A : Pg} {σ : Sg} (hM : RM p A σ) (hp : p + 41 ≤ 205) (hW : WF A) :
    Ok (f_X10_winsOn (nI p) (-4) σ) (fun y => y.1 = nI (bm (fun i => decide (Wn A (gOf A) i ≠ 0)) (A 40)) ∧ FrM σ y.2) := by
  refine m_winsG hM hp hW (fun i hi => ?_)
  have hl : Wn A (gOf A) i ≤ 4 := wc_le hW.1 gOf_lt2
  simp only [rI_none (v := Wn A (gOf A) i) (by omega)]
  by_cases z : Wn A (gOf A) i = 0
  · simp [z]
  · simp [z]
/-- the reference's loops over the suits of its own page, told by the run -/
theorem m_suits {P : Nat → Bool} {A : Pg} {σ : Sg} {B : (Int32 × Int32 × Sg) → Option ((Int32 × Int32 × Sg) ⊕ (Int32 × Int32 × Sg))} (hM : RM 0 A σ) (hW : WF A)
    (he : ∀ m i s, (s 76 40) ≤ i → B (m, i, s) = some (.inr (m, i, s)))
    (hb : ∀ m i s s', RM 0 A s → ¬ (s 76 40) ≤ nI i → i < A 40 → f_X10_runsOn 0 (nI (A (26 + i))) (nI (A (32 + i))) 0 s = some s' → MEnd (gOf A) (A (18 + A (26 + i))) (A (22 + A (26 + i))) (A (32 + i)) no s s' → B (m, nI i, s) = some (.inl ((m ||| if P i then ((1 : Int32) <<< (nI i &&& 31)) else 0), nI i + 1, s'))) :
    Ok (wh B 4096 ((0 : Int32), (0 : Int32), σ)) (fun y => y.1 = nI (bm P (A 40)) ∧ FrM σ y.2.2) := by
  obtain ⟨hW, hw⟩ := hW
  have w3 := hW.2.2.1
  refine bl (P := P) (Q := fun s => FrM σ s) (i0 := 0) (n := A 40) (Nat.zero_le _) (by omega) (by omega) (fun i hi => by omega) FrM.rf ?_ ?_
  · intro i m s _ hi hQ
    have h' := hM.fr hQ
    have w8 := hW.2.2.2.2.2.2.2.1 i hi
    have h40 : s 76 40 = nI (A 40) := by have := h' 40 (by omega); rwa [Nat.zero_add] at this
    obtain ⟨s', e, q⟩ := m_runs0 (p := 0) h' (by omega) hW (hw i hi) w8.2
    refine ok_eq (hb m i s s' h' (by rw [h40]; exact nnle hi (by omega)) hi e q) ⟨s', ?_, hQ.tr q.1⟩
    rw [nI_1]
    by_cases z : P i = true
    · rw [if_pos z, if_pos z]
    · rw [if_neg z, if_neg z, or0]
  · intro m s hQ
    have h' := hM.fr hQ
    have h40 : s 76 40 = nI (A 40) := by have := h' 40 (by omega); rwa [Nat.zero_add] at this
    exact he m _ s (by rw [h40]; exact nle (Nat.le_refl _) (by omega))
theorem zrm {A : Pg} {σ : Sg} (h : RM 0 A σ) {k : Nat} (hk : k < 41) : σ 76 k = nI (A k) := by have := h k hk; rwa [Nat.zero_add] at this
theorem c40 : (40 : Int32).toNatClampNeg = 40 := rfl
theorem c39 : (39 : Int32).toNatClampNeg = 39 := rfl
theorem m_opened {A : Pg} {σ : Sg} (hM : RM 0 A σ) (hW : WF A) :
    Ok (wh b_X10_rule_4 4096 ((0 : Int32), (0 : Int32), σ)) (fun y => y.1 = nI (bm (fun i => decide ((SR A (gOf A) i).2.2.2 ≠ 0)) (A 40)) ∧ FrM σ y.2.2) := by
  have w3 := hW.1.2.2.1
  refine m_suits hM hW (fun m i s hh => ?_) (fun m i s s' h' hn hi e hw => ?_)
  · unfold b_X10_rule_4
    dsimp +instances only
    rw [c40, if_pos hh]
  · have hl := go_open (g := gOf A) (k := A (18 + A (26 + i))) (o := no) 10 0 (A (32 + i)) (A (22 + A (26 + i))) 0
    have q0 : (s' 75 19 = 0) ↔ (SR A (gOf A) i).2.2.2 = 0 := by
      rw [hw.2.2.2.2.1]
      exact nI_eq (b := 0) (by omega) (by omega)
    unfold b_X10_rule_4
    dsimp +instances only
    rw [c40, if_neg hn, show (26 : Int32) = nI 26 from rfl, show (32 : Int32) = nI 32 from rfl, nI_add, nI_add, if_pos (inR_of (vp_in_nI (by omega) (by omega))), if_pos (inR_of (vp_in_nI (by omega) (by omega))), nI_clamp (by omega), nI_clamp (by omega), zrm h' (by omega), zrm h' (by omega), e]
    simp only [Option.bind_some, app, q0]
    by_cases z0 : (SR A (gOf A) i).2.2.2 = 0 <;> simp [z0]
theorem m_restedOn {a : Nat} {A : Pg} {σ : Sg} (hM : RM 0 A σ) (hW : WF A) (ha : a < 7) :
    Ok (wh (b_X10_peg_27 (nI a)) 4096 ((0 : Int32), (0 : Int32), σ)) (fun y => y.1 = nI (bm (fun i => decide ((SR A (gOf A) i).1 = a + 1)) (A 40)) ∧ FrM σ y.2.2) := by
  have w3 := hW.1.2.2.1
  have w1 := hW.1.1
  refine m_suits hM hW (fun m i s hh => ?_) (fun m i s s' h' hn hi e hw => ?_)
  · unfold b_X10_peg_27
    dsimp +instances only
    rw [c40, if_pos hh]
  · have hl := go_lt (k := A (18 + A (26 + i))) (o := no) (gOf_lt2 (A := A)) 10 0 (A (32 + i)) (A (22 + A (26 + i))) 0
    have q0 : (s' 75 16 = nI a) ↔ (SR A (gOf A) i).1 = a + 1 := by
      rw [hw.2.1]
      exact rI_eq (by omega) (by omega)
    unfold b_X10_peg_27
    dsimp +instances only
    rw [c40, if_neg hn, show (26 : Int32) = nI 26 from rfl, show (32 : Int32) = nI 32 from rfl, nI_add, nI_add, if_pos (inR_of (vp_in_nI (by omega) (by omega))), if_pos (inR_of (vp_in_nI (by omega) (by omega))), nI_clamp (by omega), nI_clamp (by omega), zrm h' (by omega), zrm h' (by omega), e]
    simp only [Option.bind_some, app, q0, decide_eq_true_eq]
theorem m_restingColumns {h : Nat} {A : Pg} {σ : Sg} (hM : RM 0 A σ) (hW : WFs A) (hh : h < A 41) :
    Ok (wh (b_X10_hedgehog_27 (nI h)) 4096 ((0 : Int32), (0 : Int32), σ)) (fun y => y.1 = nI (bm (fun c => decide ((go (gOf A) (A (18 + h)) no 10 0 c (A (22 + h)) 0).1 ≠ 0)) 8) ∧ FrM σ y.2.2) := by
  have w1 := hW.1
  refine bl (Q := fun s => FrM σ s) (i0 := 0) (n := 8) (Nat.zero_le _) (by omega) (by omega) (fun i hi => by omega) FrM.rf ?_ ?_
  · intro i m s _ hi hQ
    have h' := hM.fr hQ
    unfold b_X10_hedgehog_27
    dsimp +instances only
    refine ok_f (show ¬ nI 8 ≤ nI i from nnle hi (by omega)) ?_
    refine ok_bind (m_runs0 (p := 0) h' (by omega) hW hh hi) (fun y hy => ok_app (ok_some ⟨_, ?_, hQ.tr hy.1⟩))
    have hl := go_lt (k := A (18 + h)) (o := no) (gOf_lt2 (A := A)) 10 0 i (A (22 + h)) 0
    have q0 : (y 75 16 = -4) ↔ (go (gOf A) (A (18 + h)) no 10 0 i (A (22 + h)) 0).1 = 0 := by
      rw [hy.2.1]
      exact rI_none (by omega)
    rw [nI_1]
    simp only [q0]
    by_cases z : (go (gOf A) (A (18 + h)) no 10 0 i (A (22 + h)) 0).1 = 0 <;> simp [z, or0]
  · intro m s hQ
    unfold b_X10_hedgehog_27
    dsimp +instances only
    rw [if_pos (by decide)]
theorem m_share {h a : Nat} {A : Pg} {σ : Sg} (hM : RM 0 A σ) (hW : WFs A) (hh : h < A 41) (ha : a < 4) :
    Ok (wh (b_X10_share_22 (nI h) (nI a)) 4096 ((0 : Int32), (0 : Int32), σ)) (fun y => y.1 = nI (cnt (fun c => decide (wc A (gOf A) h c = a + 1)) 8) ∧ FrM σ y.2.2) := by
  refine wh_0 (P := fun k s => s.1 = nI (cnt (fun c => decide (wc A (gOf A) h c = a + 1)) k) ∧ s.2.1 = nI k ∧ FrM σ s.2.2) 8 (by omega) ⟨rfl, rfl, FrM.rf⟩ ?_
  rintro k ⟨m, i, s⟩ hk ⟨e1, e2, hQ⟩
  dsimp at e1 e2 hQ
  subst e1 e2
  unfold b_X10_share_22
  dsimp +instances only
  by_cases hlt : k < 8
  · left
    refine ⟨hlt, ok_f (show ¬ nI 8 ≤ nI k from nnle hlt (by omega)) ?_⟩
    refine ok_bind (m_winnerOn (p := 0) (hM.fr hQ) (by omega) hW hh hlt) (fun y hy => ok_app (ok_some ⟨_, rfl, ?_, nI_1 _, hQ.tr hy.2.1⟩))
    have hl : wc A (gOf A) h k ≤ 4 := wc_le hW gOf_lt2
    have q := rI_eq (v := wc A (gOf A) h k) (a := a) (by omega) (by omega)
    show _ + _ = nI (cnt _ k + _)
    rw [← nI_add, hy.1]
    simp only [q, decide_eq_true_eq]
    by_cases z : wc A (gOf A) h k = a + 1
    · rw [if_pos z, if_pos z]; rfl
    · rw [if_neg z, if_neg z]; rfl
  · right
    obtain rfl : k = 8 := by omega
    exact ok_t (by decide) (ok_some ⟨_, rfl, rfl, hQ⟩)
/-- the first below n, or -4 -/
theorem m_first {h a : Nat} {A : Pg} {σ : Sg} (hM : RM 0 A σ) (hW : WFs A) (hh : h < A 41) (ha : a < 4) :
    Ok (wh (b_X10_first_19 (nI h) (nI a)) 4096 ((0 : Int32), σ)) (fun r => (∃ x, r = .inl x ∧ FrM σ x.2 ∧ ∀ j, j < 8 → wc A (gOf A) h j ≠ a + 1) ∨ ∃ x i, r = .inr x ∧ FrM σ x.2 ∧ i < 8 ∧ x.1 = nI i ∧ wc A (gOf A) h i = a + 1 ∧ ∀ j, j < i → wc A (gOf A) h j ≠ a + 1) := by
  refine wh_0 (P := fun k s => s.1 = nI k ∧ FrM σ s.2 ∧ ∀ j, j < k → wc A (gOf A) h j ≠ a + 1) 8 (by omega) ⟨rfl, FrM.rf, fun j hj => by omega⟩ ?_
  rintro k ⟨i, s⟩ hk ⟨e1, hQ, hj⟩
  dsimp at e1 hQ
  subst e1
  unfold b_X10_first_19
  dsimp +instances only
  by_cases hlt : k < 8
  · obtain ⟨y, e, hy⟩ := m_winnerOn (p := 0) (hM.fr hQ) (by omega) hW hh hlt
    have hl : wc A (gOf A) h k ≤ 4 := wc_le hW gOf_lt2
    have q := rI_eq (v := wc A (gOf A) h k) (a := a) (by omega) (by omega)
    rw [if_neg (show ¬ (8 : Int32) ≤ nI k from nnle (b := 8) hlt (by omega)), show (0 : Int32) = nI 0 from rfl, e, Option.bind_some, hy.1]
    by_cases z : wc A (gOf A) h k = a + 1
    · right
      rw [if_pos (q.mpr z)]
      exact ok_some ⟨_, rfl, Or.inr ⟨_, k, rfl, hQ.tr hy.2.1, hlt, rfl, z, hj⟩⟩
    · left
      rw [if_neg (fun e => z (q.mp e))]
      refine ⟨hlt, ok_some ⟨_, rfl, nI_1 _, hQ.tr hy.2.1, fun j h1 => ?_⟩⟩
      by_cases e : j = k
      · rw [e]; exact z
      · exact hj j (by omega)
  · right
    obtain rfl : k = 8 := by omega
    exact ok_t (by decide) (ok_some ⟨_, rfl, Or.inl ⟨_, rfl, hQ, hj⟩⟩)
