/-! tokens, as the reference reads them -/
def ML : Ft ⊕ Tk → Sg → Prop
  | .inl q, σ => q.1 ≠ 0 ∧ q.1 < 10 ∧ σ 75 8 = nI q.1 ∧ σ 75 9 = nI q.2
  | .inr t, σ => σ 75 8 = 0 ∧ σ 75 12 = nI t.1 ∧ σ 75 11 = nI t.2.1 ∧ σ 75 10 = nI t.2.2.1 ∧ (t.1 = 2 → σ 75 13 = nI t.2.2.2)
def T75 (c j : Nat) : Prop := c = 75 ∧ 8 ≤ j ∧ j ≤ 13
def A75 (σ σ' : Sg) : Prop := Agr T75 σ σ'
theorem A75.rf {σ : Sg} : A75 σ σ := Agr.rf
theorem A75.tr {σ σ1 σ2 : Sg} (h1 : A75 σ σ1) (h2 : A75 σ1 σ2) : A75 σ σ2 := Agr.tr h1 h2
theorem A75.u {σ σ1 : Sg} (h : A75 σ σ1) {i : Nat} {x : Int32} (hi : 8 ≤ i ∧ i ≤ 13) : A75 σ (up2 σ1 75 i x) := Agr.up h ⟨rfl, hi⟩
theorem TM.f {b : Nat → Nat} {n : Nat} {σ σ1 : Sg} (h : TM b n σ) (hf : A75 σ σ1) : TM b n σ1 := ⟨h.1, by rw [hf 75 6 (by unfold T75; omega)]; exact h.2.1, fun i hi => by rw [hf 78 i (by unfold T75; omega)]; exact h.2.2 i hi⟩
theorem ML.ne {q : Ft} {σ : Sg} (h : ML (.inl q) σ) : ¬ σ 75 8 = 0 := by
  rw [h.2.2.1]
  exact fun z => h.1 ((nI_eq (b := 0) (by have := h.2.1; omega) (by omega)).mp z)
theorem ML.gt {q : Ft} {σ : Sg} (h : ML (.inl q) σ) : ¬ σ 75 8 ≤ 0 := by
  rw [h.2.2.1]
  exact nI_nle (by have := h.1; omega) (by have := h.2.1; omega)
theorem m_fails {c p : Nat} {σ : Sg} (hc0 : c ≠ 0) (hc : c < 10) (h1 : σ 75 8 = 0) (h5 : σ 75 11 = nI p) : ML (.inl (c, p)) (f_X10_fails (nI c) σ) ∧ A75 σ (f_X10_fails (nI c) σ) := by
  unfold f_X10_fails
  rw [if_pos h1]
  simp only [app]
  refine ⟨⟨hc0, hc, ?_, ?_⟩, (A75.rf.u (by omega)).u (by omega)⟩
  · rw [up2_slot _ _ (by decide), up2_same]
  · rw [up2_same, up2_slot _ _ (by decide), h5]
theorem m_step_no {q : Ft} {σ : Sg} (h : ML (.inl q) σ) : f_X10_step σ = some σ := by
  unfold f_X10_step
  rw [if_neg h.gt]
theorem m_byte {b : Nat → Nat} {n i : Nat} {σ : Sg} (h : TM b n σ) (hi : i < n) : f_X10_byteAt (nI i) σ = some (nI (b i)) := by
  have h1 := h.1
  unfold f_X10_byteAt
  rw [h.2.1, if_neg (nnle hi (by omega)), if_pos (inR_of (vp_in_nI (by omega) (by omega))), nI_clamp (by omega), (h.2.2 i hi).2]
theorem m_byte_no {b : Nat → Nat} {n i : Nat} {σ : Sg} (h : TM b n σ) (hi : n ≤ i) (hi2 : i < 2 ^ 31) : f_X10_byteAt (nI i) σ = some (-4) := by
  unfold f_X10_byteAt
  rw [h.2.1, if_pos (nle hi (by omega))]
theorem in_az {c : Nat} (hc : c < 2 ^ 31) : (97 ≤ c ∧ c ≤ 122 → f_X10_in (nI c).toInt64 97 122 = 1) ∧ (¬ (97 ≤ c ∧ c ≤ 122) → f_X10_in (nI c).toInt64 97 122 = 0) := by
  have := mIn (x := nI c) (lo := 97) (hi := 122) (l := 97) (h := 122) (by decide) (by decide)
  rw [nI_toInt hc] at this
  exact ⟨fun z => this.1 (by omega), fun z => this.2 (by omega)⟩
theorem in_09 {c : Nat} (hc : c < 2 ^ 31) : (48 ≤ c ∧ c ≤ 57 → f_X10_in (nI c).toInt64 48 57 = 1) ∧ (¬ (48 ≤ c ∧ c ≤ 57) → f_X10_in (nI c).toInt64 48 57 = 0) := by
  have := mIn (x := nI c) (lo := 48) (hi := 57) (l := 48) (h := 57) (by decide) (by decide)
  rw [nI_toInt hc] at this
  exact ⟨fun z => this.1 (by omega), fun z => this.2 (by omega)⟩
theorem in_no : f_X10_in (-4 : Int32).toInt64 97 122 = 0 ∧ f_X10_in (-4 : Int32).toInt64 48 57 = 0 := by decide
theorem m_blank {b : Nat → Nat} {n e : Nat} {σ : Sg} (h : TM b n σ) (he : e ≤ n) (h10 : σ 75 10 = nI e) : Ok (wh b_X10_step_8 4096 σ) (fun y => y 75 10 = nI (rnn b n 32 32 e) ∧ y 75 8 = σ 75 8 ∧ A75 σ y) := by
  have hn := h.1
  generalize hR : rnn b n 32 32 e = R
  refine wh_1 (P := fun k (s : Sg) => e + k ≤ n ∧ s 75 10 = nI (e + k) ∧ s 75 8 = σ 75 8 ∧ A75 σ s ∧ rnn b n 32 32 (e + k) = R) 160 (by omega) ⟨by omega, h10, rfl, A75.rf, hR⟩ ?_
  rintro k s hk ⟨q1, q2, q3, q4, q5⟩
  unfold b_X10_step_8
  have hT := h.f q4
  rw [q2]
  by_cases hlt : e + k < n
  · have hb := (hT.2.2 _ hlt).1
    rw [m_byte hT hlt, Option.bind_some]
    by_cases c : b (e + k) = 32
    · refine ok_t (by rw [c]; rfl) (ok_some (Or.inl ⟨by omega, _, rfl, by omega, ?_, ?_, q4.u (by omega), ?_⟩))
      · rw [up2_same]; exact nI_1 _
      · rw [up2_slot _ _ (by decide)]; exact q3
      · rw [← q5, rnn_go hlt (by omega)]; rfl
    · refine ok_f (fun z => c ((nI_eq (b := 32) (by omega) (by omega)).mp z)) (ok_some (Or.inr ⟨_, rfl, ?_, q3, q4⟩))
      rw [q2, ← q5, rnn_stop (by omega)]
  · rw [m_byte_no hT (by omega) (by omega), Option.bind_some]
    refine ok_f (by decide) (ok_some (Or.inr ⟨_, rfl, ?_, q3, q4⟩))
    rw [q2, ← q5, rnn_end (by omega)]
theorem m_letters {b : Nat → Nat} {n e : Nat} {σ : Sg} (h : TM b n σ) (he : e ≤ n) (h10 : σ 75 10 = nI e) : Ok (wh b_X10_step_84 4096 σ) (fun y => y 75 10 = nI (rnn b n 97 122 e) ∧ y 75 8 = σ 75 8 ∧ y 75 11 = σ 75 11 ∧ A75 σ y) := by
  have hn := h.1
  generalize hR : rnn b n 97 122 e = R
  refine wh_1 (P := fun k (s : Sg) => e + k ≤ n ∧ s 75 10 = nI (e + k) ∧ s 75 8 = σ 75 8 ∧ s 75 11 = σ 75 11 ∧ A75 σ s ∧ rnn b n 97 122 (e + k) = R) 160 (by omega) ⟨by omega, h10, rfl, rfl, A75.rf, hR⟩ ?_
  rintro k s hk ⟨q1, q2, q3, q3b, q4, q5⟩
  unfold b_X10_step_84
  have hT := h.f q4
  rw [q2]
  by_cases hlt : e + k < n
  · have hb := (hT.2.2 _ hlt).1
    rw [m_byte hT hlt, Option.bind_some]
    by_cases c : 97 ≤ b (e + k) ∧ b (e + k) ≤ 122
    · refine ok_f (by rw [(in_az (by omega)).1 c]; decide) (ok_some (Or.inl ⟨by omega, _, rfl, by omega, ?_, ?_, ?_, q4.u (by omega), ?_⟩))
      · rw [up2_same]; exact nI_1 _
      · rw [up2_slot _ _ (by decide)]; exact q3
      · rw [up2_slot _ _ (by decide)]; exact q3b
      · rw [← q5, rnn_go hlt (by omega)]; rfl
    · refine ok_t ((in_az (by omega)).2 c) (ok_some (Or.inr ⟨_, rfl, ?_, q3, q3b, q4⟩))
      rw [q2, ← q5, rnn_stop (by omega)]
  · rw [m_byte_no hT (by omega) (by omega), Option.bind_some]
    refine ok_t in_no.1 (ok_some (Or.inr ⟨_, rfl, ?_, q3, q3b, q4⟩))
    rw [q2, ← q5, rnn_end (by omega)]
def dv (b : Nat → Nat) (s k : Nat) : Nat := if k = 0 then 0 else if k = 1 then b s - 48 else 10 * (b s - 48) + (b (s + 1) - 48)
theorem m_digits {b : Nat → Nat} {n s0 : Nat} {σ : Sg} (h : TM b n σ) (he : s0 < n) (hd : 48 ≤ b s0 ∧ b s0 ≤ 57) (h10 : σ 75 10 = nI s0) (h11 : σ 75 11 = nI s0) (h13 : σ 75 13 = 0) : Ok (wh b_X10_step_140 4096 σ) (fun y => y 75 10 = nI (rnn b n 48 57 s0) ∧ y 75 13 = nI (dv b s0 (rnn b n 48 57 s0 - s0)) ∧ y 75 8 = σ 75 8 ∧ y 75 11 = nI s0 ∧ A75 σ y) := by
  have hn := h.1
  generalize hR : rnn b n 48 57 s0 = R
  refine wh_1 (P := fun k (s : Sg) => s0 + k ≤ n ∧ s 75 10 = nI (s0 + k) ∧ s 75 8 = σ 75 8 ∧ s 75 11 = nI s0 ∧ s 75 13 = nI (dv b s0 k) ∧ A75 σ s ∧ rnn b n 48 57 (s0 + k) = R) 160 (by omega) ⟨by omega, h10, rfl, h11, h13, A75.rf, hR⟩ ?_
  rintro k s hk ⟨q1, q2, q3, q6, q7, q4, q5⟩
  unfold b_X10_step_140
  have hT := h.f q4
  rw [q2]
  by_cases hlt : s0 + k < n
  · have hb := (hT.2.2 _ hlt).1
    rw [m_byte hT hlt, Option.bind_some]
    by_cases c : 48 ≤ b (s0 + k) ∧ b (s0 + k) ≤ 57
    · refine ok_f (by rw [(in_09 (by omega)).1 c]; decide) ?_
      rw [q6, q7, nI_sub (by omega), show s0 + k - s0 = k by omega]
      refine ok_bind (Q := fun j => j = nI (dv b s0 (k + 1))) ?_ (fun j hj => ok_app (ok_some (Or.inl ⟨by omega, _, rfl, by omega, ?_, ?_, ?_, ?_, (q4.u (by omega)).u (by omega), ?_⟩)))
      · by_cases k2 : 2 ≤ k
        · refine ok_t (show nI 2 ≤ nI k from nle k2 (by omega)) (ok_some ?_)
          unfold dv
          rw [if_neg (by omega), if_neg (by omega), if_neg (by omega), if_neg (by omega)]
        · refine ok_f (show ¬ nI 2 ≤ nI k from nnle (by omega) (by omega)) (ok_some ?_)
          rw [show (10 : Int32) = nI 10 from rfl, pk_mul, nI_add, show (48 : Int32) = nI 48 from rfl, nI_sub (by omega)]
          congr 1
          rcases (show k = 0 ∨ k = 1 by omega) with rfl | rfl
          · show 10 * 0 + b s0 - 48 = b s0 - 48
            omega
          · show 10 * (b s0 - 48) + b (s0 + 1) - 48 = 10 * (b s0 - 48) + (b (s0 + 1) - 48)
            omega
      · rw [up2_same, up2_slot _ _ (by decide), q2]; exact nI_1 _
      · rw [up2_slot _ _ (by decide), up2_slot _ _ (by decide)]; exact q3
      · rw [up2_slot _ _ (by decide), up2_slot _ _ (by decide)]; exact q6
      · rw [up2_slot _ _ (by decide), up2_same]; exact hj
      · rw [← q5, rnn_go hlt (by omega)]; rfl
    · refine ok_t ((in_09 (by omega)).2 c) (ok_some (Or.inr ⟨_, rfl, ?_, ?_, q3, q6, q4⟩))
      · rw [q2, ← q5, rnn_stop (by omega)]
      · rw [← q5, rnn_stop (by omega), show s0 + k - s0 = k by omega]; exact q7
  · rw [m_byte_no hT (by omega) (by omega), Option.bind_some]
    refine ok_t in_no.2 (ok_some (Or.inr ⟨_, rfl, ?_, ?_, q3, q6, q4⟩))
    · rw [q2, ← q5, rnn_end (by omega)]
    · rw [← q5, rnn_end (by omega), show s0 + k - s0 = k by omega]; exact q7
theorem m_step' {b : Nat → Nat} {n e : Nat} {σ : Sg} (h : TM b n σ) (he : e ≤ n) (h8 : σ 75 8 = 0) (h10 : σ 75 10 = nI e) : Ok (f_X10_step σ) (fun y => ML (lx b n e) y ∧ A75 σ y) := by
  have hn := h.1
  have hs := rnn_ge (b := b) (lo := 32) (hi := 32) he
  unfold f_X10_step
  refine ok_t (by rw [h8]; decide) ?_
  refine ok_bind (m_blank h he h10) (fun u0 hu => ?_)
  obtain ⟨u1, u2, u3⟩ := hu
  unfold lx
  generalize rnn b n 32 32 e = s at hs u1
  refine ok_app ?_
  have hF : A75 σ (up2 u0 75 11 (u0 75 10)) := u3.u (by omega)
  have k8 : up2 u0 75 11 (u0 75 10) 75 8 = 0 := by rw [up2_slot _ _ (by decide), u2]; exact h8
  have k10 : up2 u0 75 11 (u0 75 10) 75 10 = nI s := by rw [up2_slot _ _ (by decide)]; exact u1
  have k11 : up2 u0 75 11 (u0 75 10) 75 11 = nI s := by rw [up2_same]; exact u1
  generalize up2 u0 75 11 (u0 75 10) = u at hF k8 k10 k11
  have hT := h.f hF
  rw [k10]
  unfold tkAt
  by_cases c1 : n ≤ s
  · rw [if_pos c1, m_byte_no hT c1 (by omega), Option.bind_some]
    refine ok_t rfl (ok_app (ok_some ⟨⟨?_, ?_, ?_, ?_, fun z => ?_⟩, (hF.u (by omega)).u (by omega)⟩))
    · rw [up2_slot _ _ (by decide), up2_slot _ _ (by decide)]; exact k8
    · rw [up2_same]; rfl
    · rw [up2_slot _ _ (by decide), up2_slot _ _ (by decide)]; exact k11
    · rw [up2_slot _ _ (by decide), up2_slot _ _ (by decide)]; exact k10
    · exact absurd z (by dsimp only; omega)
  · rw [if_neg c1, m_byte hT (by omega), Option.bind_some]
    have hb := (hT.2.2 s (by omega)).1
    refine ok_f (nneg4 (by omega)) ?_
    by_cases c2 : 97 ≤ b s ∧ b s ≤ 122
    · rw [if_pos c2]
      refine ok_f (by rw [(in_az (by omega)).1 c2]; decide) (ok_app ?_)
      have hF2 : A75 σ (up2 u 75 13 0) := hF.u (by omega)
      refine ok_bind (m_letters (h.f hF2) hs.2 (by rw [up2_slot _ _ (by decide)]; exact k10)) (fun y hy => ?_)
      obtain ⟨v1, v2, v3, v4⟩ := hy
      refine ok_some ⟨⟨?_, ?_, ?_, ?_, fun z => ?_⟩, (hF2.tr v4).u (by omega)⟩
      · rw [up2_slot _ _ (by decide), v2, up2_slot _ _ (by decide)]; exact k8
      · rw [up2_same]; rfl
      · rw [up2_slot _ _ (by decide), v3, up2_slot _ _ (by decide)]; exact k11
      · rw [up2_slot _ _ (by decide)]; exact v1
      · exact absurd z (by dsimp only; omega)
    · rw [if_neg c2]
      refine ok_t ((in_az (by omega)).2 c2) ?_
      by_cases c3 : 48 ≤ b s ∧ b s ≤ 57
      · rw [if_pos c3]
        have g1 := rnn_gt (n := n) (by omega) c3
        have g2 := rnn_ge (b := b) (lo := 48) (hi := 57) hs.2
        refine ok_f (by rw [(in_09 (by omega)).1 c3]; decide) (ok_app ?_)
        have hF2 : A75 σ (up2 u 75 13 0) := hF.u (by omega)
        refine ok_bind (m_digits (s0 := s) (h.f hF2) (by omega) c3 (by rw [up2_slot _ _ (by decide)]; exact k10) (by rw [up2_slot _ _ (by decide)]; exact k11) (by rw [up2_same])) (fun y hy => ok_app ?_)
        obtain ⟨v1, v2, v3, v4, v5⟩ := hy
        generalize rnn b n 48 57 s = e' at g1 g2 v1 v2
        have hF3 : A75 σ (up2 y 75 12 2) := (hF2.tr v5).u (by omega)
        have j8 : up2 y 75 12 2 75 8 = 0 := by rw [up2_slot _ _ (by decide), v3, up2_slot _ _ (by decide)]; exact k8
        have j10 : up2 y 75 12 2 75 10 = nI e' := by rw [up2_slot _ _ (by decide)]; exact v1
        have j11 : up2 y 75 12 2 75 11 = nI s := by rw [up2_slot _ _ (by decide)]; exact v4
        have j12 : up2 y 75 12 2 75 12 = 2 := up2_same _ _ _ _
        have j13 : up2 y 75 12 2 75 13 = nI (dv b s (e' - s)) := by rw [up2_slot _ _ (by decide)]; exact v2
        generalize up2 y 75 12 2 = w at hF3 j8 j10 j11 j12 j13
        rw [j10, j11, nI_sub (by omega)]
        by_cases h2 : 2 < e' - s
        · rw [if_pos h2]
          refine ok_f (show ¬ nI (e' - s) ≤ nI 2 from nnle h2 (by omega)) ?_
          obtain ⟨f1, f2⟩ := m_fails (c := 1) (by omega) (by omega) j8 j11
          exact ok_some ⟨f1, hF3.tr f2⟩
        · rw [if_neg h2]
          refine ok_t (show nI (e' - s) ≤ nI 2 from nle (by omega) (by omega)) (ok_some ⟨⟨j8, j12, j11, j10, fun _ => ?_⟩, hF3⟩)
          rw [j13]
          unfold dv
          rw [if_neg (by omega)]
          by_cases h3 : e' - s = 2
          · rw [if_neg (by omega), if_pos h3]
          · rw [if_pos (by omega), if_neg h3]
      · rw [if_neg c3]
        refine ok_t ((in_09 (by omega)).2 c3) (ok_app (ok_app ?_))
        have hF3 : A75 σ (up2 (up2 u 75 13 0) 75 12 3) := (hF.u (by omega)).u (by omega)
        have j8 : up2 (up2 u 75 13 0) 75 12 3 75 8 = 0 := by rw [up2_slot _ _ (by decide), up2_slot _ _ (by decide)]; exact k8
        have j10 : up2 (up2 u 75 13 0) 75 12 3 75 10 = nI s := by rw [up2_slot _ _ (by decide), up2_slot _ _ (by decide)]; exact k10
        have j11 : up2 (up2 u 75 13 0) 75 12 3 75 11 = nI s := by rw [up2_slot _ _ (by decide), up2_slot _ _ (by decide)]; exact k11
        have j12 : up2 (up2 u 75 13 0) 75 12 3 75 12 = 3 := up2_same _ _ _ _
        generalize up2 (up2 u 75 13 0) 75 12 3 = w at hF3 j8 j10 j11 j12
        by_cases c4 : b s = 59
        · rw [if_pos c4]
          refine ok_t (by rw [c4]; rfl) (ok_some ⟨⟨?_, ?_, ?_, ?_, fun z => ?_⟩, hF3.u (by omega)⟩)
          · rw [up2_slot _ _ (by decide)]; exact j8
          · rw [up2_slot _ _ (by decide)]; exact j12
          · rw [up2_slot _ _ (by decide)]; exact j11
          · rw [up2_same, j10]; exact nI_1 _
          · exact absurd z (by dsimp only; omega)
        · rw [if_neg c4]
          refine ok_f (fun z => c4 ((nI_eq (b := 59) (by omega) (by omega)).mp z)) (ok_app ?_)
          obtain ⟨f1, f2⟩ := m_fails (σ := up2 w 75 10 (w 75 10 + 1)) (c := 1) (p := s) (by omega) (by omega) (by rw [up2_slot _ _ (by decide)]; exact j8) (by rw [up2_slot _ _ (by decide)]; exact j11)
          exact ok_some ⟨f1, (hF3.u (by omega)).tr f2⟩
