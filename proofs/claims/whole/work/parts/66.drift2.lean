/-- one turn of a drift: which peg, where to, who, what is left -/
def dR (B : Pg) (n : Nat) : Nat := (go (gOf B) (B (18 + n % B 41)) no 10 0 (n / 4 % 8) (B (22 + n % B 41)) 0).1
def dC (n : Nat) : Nat := 10 * (n / 32 % 10) + n / 320 % 8
def dW (B : Pg) (n : Nat) : Nat := if dR B n = 0 then 0 else B (7 + (dR B n - 1)) + 1
def dP (B : Pg) (n : Nat) : Pg := if dR B n = 0 then B else if gOf B (dC n) = 0 then mvP B (dR B n - 1) (dC n) else B
theorem dC_ok (n : Nat) : okc (dC n) := by
  unfold okc dC
  have h1 : n / 32 % 10 < 10 := Nat.mod_lt _ (by omega)
  have h2 : n / 320 % 8 < 8 := Nat.mod_lt _ (by omega)
  generalize n / 32 % 10 = x at h1
  generalize n / 320 % 8 = y at h2
  omega
theorem nz_pos {n : Nat} (h0 : 0 < n) (h : n < 2 ^ 31) : nz (nI n) = true := by
  have : ¬ nI n = (0 : Int32) := nne (b := 0) (by omega) h (by omega)
  simpa [nz] using this
theorem dR_lt (B : Pg) (n : Nat) : dR B n < B 38 + 1 := go_lt gOf_lt2 _ _ _ _ _
theorem dP_ok {B : Pg} {n : Nat} (hW : WF B) : WF (dP B n) ∧ dP B n 41 = B 41 := by
  have w1 := hW.1.1
  have hl := dR_lt B n
  unfold dP
  by_cases h0 : dR B n = 0
  · rw [if_pos h0]; exact ⟨hW, rfl⟩
  · rw [if_neg h0]
    by_cases hg : gOf B (dC n) = 0
    · rw [if_pos hg]
      exact ⟨WF_mvP hW (by omega) (dC_ok n) (Or.inl hg), pu_n _ _ (by omega)⟩
    · rw [if_neg hg]; exact ⟨hW, rfl⟩
theorem dW_le {B : Pg} {n : Nat} (hW : WF B) : dW B n ≤ 4 := by
  have hl := dR_lt B n
  unfold dW
  by_cases h0 : dR B n = 0
  · rw [if_pos h0]; omega
  · rw [if_neg h0]
    have := (hW.1.2.2.2.2.1 (dR B n - 1) (by omega)).2
    omega
def dst (x : Int32 × Int32 × Int32 × Pg) : Int32 × Int32 × Int32 × Pg :=
  (x.1 * 1103515245 + 12345, (if dR x.2.2.2 ((ushr (x.1 * 1103515245 + 12345) 16) &&& (32767 : Int32)).toNatClampNeg = 0 then x.2.1 else x.2.1 + 1), (if dW x.2.2.2 ((ushr (x.1 * 1103515245 + 12345) 16) &&& (32767 : Int32)).toNatClampNeg = 1 then x.2.2.1 + 1 else x.2.2.1), dP x.2.2.2 ((ushr (x.1 * 1103515245 + 12345) 16) &&& (32767 : Int32)).toNatClampNeg)
def drS (A : Pg) (s : Int32) : Nat → Int32 × Int32 × Int32 × Pg
  | 0 => (s, 0, 0, A)
  | t + 1 => dst (drS A s t)
theorem drS_ok {A : Pg} (s : Int32) (hW : WF A) : ∀ t, WF (drS A s t).2.2.2 ∧ (drS A s t).2.2.2 41 = A 41 := by
  intro t
  induction t with
  | zero => exact ⟨hW, rfl⟩
  | succ t ih =>
    obtain ⟨h1, h2⟩ := dP_ok (n := ((ushr ((drS A s t).1 * 1103515245 + 12345) 16) &&& (32767 : Int32)).toNatClampNeg) ih.1
    exact ⟨h1, h2.trans ih.2⟩
theorem x_driftOnce {B : Pg} {s : Sg} {n : Nat} (hn : n < 32768) (h : RX 13 B s) (hW : WF B) (h41 : 0 < B 41) : Ok (f_X9_driftOnce (nI n) s) (fun y => y.1 = rI (dW B n) ∧ RX 13 (dP B n) y.2 ∧ Fr (fun q => slp 13 q ∨ crt 13 q) s y.2) := by
  have w1 := hW.1.1
  have w4 := hW.1.2.2.2.1
  have hl := dR_lt B n
  have hm : n % B 41 < B 41 := Nat.mod_lt _ h41
  unfold f_X9_driftOnce
  rw [h.2.2.1]
  refine ok_t (show (0 : Int32) < nI (B 41) from nI_lt (a := 0) h41 (by omega)) (ok_app ?_)
  refine ok_t (show nz (nI (B 41)) = true from nz_pos (by omega) (by omega)) (ok_app ?_)
  rw [imod (by omega) (by omega), show (4 : Int32) = nI 4 from rfl, show (8 : Int32) = nI 8 from rfl, show (32 : Int32) = nI 32 from rfl, show (10 : Int32) = nI 10 from rfl, show (320 : Int32) = nI 320 from rfl, idiv (by omega) (by omega), imod (by omega) (by omega)]
  refine ok_bind (x_letGo h.g hW.1 gOf_lt2 hm (by omega)) (fun y hy => ?_)
  obtain ⟨f1, f2, f3, -⟩ := hy
  have hX := (h.g.cr f1).rx
  rw [idiv (by omega) (by omega), idiv (by omega) (by omega)]
  refine ok_app (ok_app (ok_app ?_))
  rw [imod (by omega) (by omega), imod (by omega) (by omega), pk_mul, nI_add]
  have f2' : y 23 0 = rI (dR B n) := f2
  have f3' : y 23 1 = rI (dW B n) := f3
  have hF : Fr (fun q => slp 13 q ∨ crt 13 q) s y := f1.mono (fun c hc => Or.inr hc)
  refine ok_bind (Q := fun j => RX 13 (dP B n) j ∧ Fr (fun q => slp 13 q ∨ crt 13 q) s j ∧ j 23 1 = rI (dW B n)) ?_ (fun j hj => ok_some ⟨hj.2.2, hj.1, hj.2.1⟩)
  rw [f2']
  by_cases h0 : dR B n = 0
  · refine ok_t (by rw [h0]; rfl) (ok_some ⟨?_, hF, f3'⟩)
    unfold dP; rw [if_pos h0]; exact hX
  · refine ok_f (fun z => h0 ((rI_none (by omega)).mp z)) ?_
    have hf := x_isFree hX w1 (dC_ok n)
    unfold dC at hf
    rw [hf, Option.bind_some]
    by_cases hg : gOf B (dC n) = 0
    · have hg' := hg
      unfold dC at hg'
      rw [if_pos hg', if_neg z10]
      rw [show rI (dR B n) = nI (dR B n - 1) from by unfold rI; rw [if_neg h0]]
      refine ok_bind (x_movePeg hX hW.1 (i := dR B n - 1) (by omega) (dC_ok n) (Or.inl hg)) (fun j hj => ok_some ⟨?_, hF.tr (hj.2.mono (fun c hc => Or.inl hc)), ?_⟩)
      · unfold dP; rw [if_neg h0, if_pos hg]; exact hj.1
      · rw [hj.2 23 (by unfold slp; omega)]; exact f3'
    · have hg' := hg
      unfold dC at hg'
      rw [if_neg hg', if_pos rfl]
      refine ok_some ⟨?_, hF, f3'⟩
      unfold dP; rw [if_neg h0, if_neg hg]; exact hX
theorem x_drift {A : Pg} {I : Nat → Pg} {σ : Sg} {m : Nat} {a1 : Int32} (h : InvA A I σ) (hm : m ≤ 60) (h41 : 0 < A 41) (s0 : Sg) (hs0 : Same σ s0) (hX0 : RX 13 A s0) : Ok (wh (b_X9_drift_56 (nI m)) 4096 (a1, (0 : Int32), (0 : Int32), (0 : Int32), s0)) (fun e => e.2.1 = (drS A a1 m).2.1 ∧ e.2.2.1 = (drS A a1 m).2.2.1 ∧ Same σ e.2.2.2.2) := by
  have hW := h.2.2.2.1
  refine wh_0 (P := fun t (e : Int32 × Int32 × Int32 × Int32 × Sg) => e.1 = (drS A a1 t).1 ∧ e.2.1 = (drS A a1 t).2.1 ∧ e.2.2.1 = (drS A a1 t).2.2.1 ∧ e.2.2.2.1 = nI t ∧ Same σ e.2.2.2.2 ∧ RX 13 (drS A a1 t).2.2.2 e.2.2.2.2) m (by omega) ⟨rfl, rfl, rfl, rfl, hs0, hX0⟩ ?_
  rintro t ⟨d, r, f, x, s⟩ ht ⟨e1, e2, e3, e4, hs, hX⟩
  dsimp at e1 e2 e3 e4 hs hX
  subst e1 e2 e3 e4
  unfold b_X9_drift_56
  dsimp +instances only
  by_cases hlt : t < m
  · left
    refine ⟨hlt, ok_f (show ¬ nI m ≤ nI t from nnle hlt (by omega)) (ok_app ?_)⟩
    obtain ⟨n, hn, en⟩ := rnd_n ((drS A a1 t).1 * 1103515245 + 12345)
    obtain ⟨hB, hB41⟩ := drS_ok a1 hW t
    rw [en]
    refine ok_bind (x_driftOnce hn hX hB (by omega)) (fun y hy => ok_app (ok_app (ok_some ⟨_, rfl, rfl, ?_, ?_, nI_1 _, ?_, ?_⟩)))
    · dsimp only
      rw [hy.1]
      show _ = (dst (drS A a1 t)).2.1
      unfold dst
      dsimp only
      rw [en, nI_clamp (by omega)]
      have hw := dW_le (n := n) hB
      by_cases h0 : dR (drS A a1 t).2.2.2 n = 0
      · rw [if_pos h0, if_pos (by unfold dW; rw [if_pos h0]; rfl)]
      · rw [if_neg h0, if_neg (fun z => by
          have := (rI_none (by omega)).mp z
          unfold dW at this
          rw [if_neg h0] at this
          omega)]
    · dsimp only
      rw [hy.1]
      show _ = (dst (drS A a1 t)).2.2.1
      unfold dst
      dsimp only
      rw [en, nI_clamp (by omega)]
      have hw := dW_le (n := n) hB
      by_cases h0 : dW (drS A a1 t).2.2.2 n = 1
      · rw [if_pos h0, if_pos (by rw [h0]; rfl)]
      · rw [if_neg h0, if_neg (show ¬ rI (dW (drS A a1 t).2.2.2 n) = (0 : Int32) from fun z => h0 ((rI_eq (a := 0) (by omega) (by omega)).mp z))]
    · exact hs.tr (Same.fr hy.2.2 (fun c hc => by unfold slp crt at hc; unfold scX; omega))
    · have : drS A a1 (t + 1) = dst (drS A a1 t) := rfl
      rw [this]
      unfold dst
      dsimp only
      rw [en, nI_clamp (by omega)]
      exact hy.2.1
  · right
    obtain rfl : t = m := by omega
    exact ok_t (show nI t ≤ nI t from nle (Nat.le_refl _) (by omega)) (ok_some ⟨_, rfl, rfl, rfl, hs⟩)
theorem m_drift {A : Pg} {I : Nat → Pg} {σ : Sg} {m : Nat} {a1 : Int32} (h : InvA A I σ) (hm : m ≤ 60) (h41 : 0 < A 41) (s0 : Sg) (hs0 : Same σ s0) (hM0 : RM 164 A s0) : Ok (wh (b_X10_drift_54 (nI m)) 4096 (a1, (0 : Int32), (0 : Int32), (0 : Int32), s0)) (fun e => e.2.1 = (drS A a1 m).2.1 ∧ e.2.2.1 = (drS A a1 m).2.2.1 ∧ Same σ e.2.2.2.2) := by
  have hW := h.2.2.2.1
  have w4 := hW.1.2.2.2.1
  refine wh_0 (P := fun t (e : Int32 × Int32 × Int32 × Int32 × Sg) => e.1 = (drS A a1 t).1 ∧ e.2.1 = (drS A a1 t).2.1 ∧ e.2.2.1 = (drS A a1 t).2.2.1 ∧ e.2.2.2.1 = nI t ∧ Same σ e.2.2.2.2 ∧ RM 164 (drS A a1 t).2.2.2 e.2.2.2.2) m (by omega) ⟨rfl, rfl, rfl, rfl, hs0, hM0⟩ ?_
  rintro t ⟨d, r, f, x, s⟩ ht ⟨e1, e2, e3, e4, hs, hM⟩
  dsimp at e1 e2 e3 e4 hs hM
  subst e1 e2 e3 e4
  unfold b_X10_drift_54
  dsimp +instances only
  by_cases hlt : t < m
  · left
    refine ⟨hlt, ok_f (show ¬ nI m ≤ nI t from nnle hlt (by omega)) (ok_app ?_)⟩
    obtain ⟨n, hn, en⟩ := rnd_n ((drS A a1 t).1 * 1103515245 + 12345)
    obtain ⟨hB, hB41⟩ := drS_ok a1 hW t
    have hS : drS A a1 (t + 1) = dst (drS A a1 t) := rfl
    unfold dst at hS
    rw [en, nI_clamp (by omega)] at hS
    generalize hBB : (drS A a1 t).2.2.2 = B at hB hB41 hM hS
    have hI := h.same hs
    rw [rnd, en]
    refine ok_app (ok_app ?_)
    rw [hI.2.2.1]
    have hm' : n % A 41 < A 41 := Nat.mod_lt _ h41
    have w1 := hB.1.1
    have hl := dR_lt B n
    have hw := dW_le (n := n) hB
    refine ok_t (show nz (nI (A 41)) = true from nz_pos (by omega) (by omega)) (ok_app ?_)
    rw [imod (by omega) (by omega), show (4 : Int32) = nI 4 from rfl, show (8 : Int32) = nI 8 from rfl, show (32 : Int32) = nI 32 from rfl, show (10 : Int32) = nI 10 from rfl, show (320 : Int32) = nI 320 from rfl, idiv (by omega) (by omega), imod (by omega) (by omega)]
    refine ok_bind (m_runs0 (p := 164) hM (by omega) hB.1 (by omega) (by omega)) (fun y hy => ?_)
    obtain ⟨f1, f2, -⟩ := hy
    rw [idiv (by omega) (by omega), idiv (by omega) (by omega)]
    refine ok_app (ok_app (ok_app ?_))
    rw [imod (by omega) (by omega), imod (by omega) (by omega), pk_mul, nI_add]
    have f2' : y 75 16 = rI (dR B n) := by unfold dR; rw [hB41]; exact f2
    have hM2 := hM.fr f1
    have hs2 := hs.tr (Same.m f1)
    refine ok_bind (Q := fun j => j.1 = (drS A a1 (t + 1)).2.1 ∧ j.2.1 = (drS A a1 (t + 1)).2.2.1 ∧ Same σ j.2.2 ∧ RM 164 (drS A a1 (t + 1)).2.2.2 j.2.2) ?_ (fun j hj => ok_some ⟨_, rfl, by rw [hS], hj.1, hj.2.1, nI_1 _, hj.2.2⟩)
    rw [f2']
    by_cases h0 : dR B n = 0
    · refine ok_t (by rw [h0]; rfl) (ok_some ⟨?_, ?_, hs2, ?_⟩)
      · rw [hS]; dsimp only; rw [if_pos h0]
      · rw [hS]; dsimp only; rw [if_neg (by unfold dW; rw [if_pos h0]; omega)]
      · rw [hS]; unfold dP; dsimp only; rw [if_pos h0]; exact hM2
    · refine ok_f (fun z => h0 ((rI_none (by omega)).mp z)) ?_
      rw [show rI (dR B n) = nI (dR B n - 1) from by unfold rI; rw [if_neg h0], show (171 : Int32) = nI 171 from rfl, show (164 : Int32) = nI 164 from rfl, nI_add, nI_add]
      refine ok_in (vp_in_nI (by omega) (by omega)) (ok_app ?_)
      have hf := m_isFreeOn (p := 164) hM2 (by omega) hB.1 (c := dC n) (by have := (dC_ok n).1; omega)
      unfold dC at hf
      rw [hf, Option.bind_some, nI_clamp (by omega), nI_clamp (by omega), show 171 + (dR B n - 1) = 164 + (7 + (dR B n - 1)) by omega, hM2 _ (by omega), hM2 _ (by omega)]
      have i1 : inR (nI (164 + (dR B n - 1))) 205 = true := inR_of (vp_in_nI (by omega) (by omega))
      have ej : (if nI (B (7 + (dR B n - 1))) = 0 then (1 : Int32) else 0) = if dW B n = 1 then 1 else 0 := by
        have hr := (hB.1.2.2.2.2.1 (dR B n - 1) (by omega)).2
        unfold dW
        rw [if_neg h0]
        by_cases z : B (7 + (dR B n - 1)) = 0
        · rw [if_pos (by rw [z]; rfl), if_pos (by omega)]
        · rw [if_neg (show ¬ nI (B (7 + (dR B n - 1))) = (0 : Int32) from fun q => z ((nI_eq (b := 0) (by omega) (by omega)).mp q)), if_neg (by omega)]
      rw [ej]
      have eF : (drS A a1 t).2.2.1 + (if dW B n = 1 then (1 : Int32) else 0) = if dW B n = 1 then (drS A a1 t).2.2.1 + 1 else (drS A a1 t).2.2.1 := by
        by_cases z : dW B n = 1
        · rw [if_pos z, if_pos z]
        · rw [if_neg z, if_neg z]; simp
      by_cases hg : gOf B (dC n) = 0
      · have hg' := hg
        unfold dC at hg'
        rw [if_pos hg', if_neg z10, Option.bind_some, if_pos i1]
        refine ok_some ⟨?_, ?_, hs2.p (by omega), ?_⟩
        · rw [hS]; dsimp only; rw [if_neg h0]
        · rw [hS]; dsimp only; rw [eF]
        · rw [hS]; unfold dP; dsimp only; rw [if_neg h0, if_pos hg]
          exact hM2.pu (k := dR B n - 1) (v := dC n)
      · have hg' := hg
        unfold dC at hg'
        rw [if_neg hg', if_pos rfl, if_pos i1, Option.bind_some, if_pos i1]
        refine ok_some ⟨?_, ?_, hs2.p (by omega), ?_⟩
        · rw [hS]; dsimp only; rw [if_neg h0]
        · rw [hS]; dsimp only; rw [eF]
        · rw [hS]; unfold dP; dsimp only; rw [if_neg h0, if_neg hg]
          have := hM2.pu (k := dR B n - 1) (v := B (dR B n - 1))
          rwa [pu_id] at this
  · right
    obtain rfl : t = m := by omega
    exact ok_t (show nI t ≤ nI t from nle (Nat.le_refl _) (by omega)) (ok_some ⟨_, rfl, rfl, rfl, hs⟩)
theorem in60 {x : Int32} : (1 ≤ x.toInt ∧ x.toInt ≤ 60 → f_X10_in x.toInt64 1 60 = 1) ∧ (¬ (1 ≤ x.toInt ∧ x.toInt ≤ 60) → f_X10_in x.toInt64 1 60 = 0) := mIn (by decide) (by decide)
theorem op_drift {σ : Sg} (h : Inv σ) (a b d : Int32) : Op (f_X9_drift a b d σ) (f_X10_drift a b d) := by
  obtain ⟨A, I, h⟩ := h
  have hW := h.2.2.2.1
  have w4 := hW.1.2.2.2.1
  have g1 : b < 1 ↔ b.toInt < 1 := lnle_iff (n := 1) (by omega)
  have g2 : (60 : Int32) < b ↔ 60 < b.toInt := nlt_iff (n := 60) (by omega)
  by_cases hv : 1 ≤ b.toInt ∧ b.toInt ≤ 60
  · by_cases hd : vp_in d 2
    · by_cases h0 : A 41 = 0
      · refine op_0 h (r := -2) ?_ ?_
        · unfold f_X9_drift
          rw [if_neg (fun z => by have := g1.mp z; omega), if_neg (fun z => by have := g2.mp z; omega), xHalf.1 hd, if_neg z10, h.1.2.2.1, h0, if_pos (show nI 0 = 0 from rfl)]
        · unfold f_X10_drift
          rw [in60.1 hv, mHalf.1 hd, if_neg z10, if_neg z10, h.2.2.1, h0, if_pos (show nI 0 = 0 from rfl)]
      · obtain ⟨m, hm, rfl⟩ : ∃ m : Nat, m ≤ 60 ∧ b = nI m := ⟨b.toInt.toNat, by omega, (i32_eq (by omega)).mpr (by omega)⟩
        have n1 : ¬ nI m < 1 := fun z => by have := g1.mp z; omega
        have n2 : ¬ (60 : Int32) < nI m := fun z => by have := g2.mp z; omega
        refine op_q h (r := if d = 0 then (drS A a m).2.1 else (drS A a m).2.2.1) ?_ (fun σ1 h' => ?_)
        · obtain ⟨c1, c2⟩ := x_copyFrom (b := 13) h.1 hW.1 (by omega)
          unfold f_X9_drift
          rw [if_neg n1, if_neg n2, xHalf.1 hd, if_neg z10, h.1.2.2.1]
          refine ok_f (fun z => h0 ((nI_eq (b := 0) (by omega) (by omega)).mp z)) (ok_app ?_)
          refine ok_bind (x_drift h hm (by omega) _ (Same.rf.s13 c2) c1) (fun e he => ?_)
          by_cases z : d = 0
          · rw [if_pos z, if_pos z]; exact ok_some ⟨he.1, he.2.2⟩
          · rw [if_neg z, if_neg z]; exact ok_some ⟨he.2.1, he.2.2⟩
        · unfold f_X10_drift
          rw [in60.1 hv, mHalf.1 hd, if_neg z10, if_neg z10, h'.2.2.1]
          refine ok_f (fun z => h0 ((nI_eq (b := 0) (by omega) (by omega)).mp z)) ?_
          refine ok_bind (m_copies (p := 0) (q := 164) h'.2.1 (by omega) (by omega) (by omega)) (fun s0 hs0 => ?_)
          refine ok_bind (m_drift h' hm (by omega) _ (Same.pg hs0.2) hs0.1) (fun e he => ?_)
          by_cases z : d = 0
          · rw [if_pos z, if_pos z]; exact ok_some ⟨he.1, he.2.2⟩
          · rw [if_neg z, if_neg z]; exact ok_some ⟨he.2.1, he.2.2⟩
    · refine op_0 h (r := -1) ?_ ?_
      · unfold f_X9_drift
        rw [if_neg (fun z => by have := g1.mp z; omega), if_neg (fun z => by have := g2.mp z; omega), xHalf.2 hd, if_pos rfl]
      · unfold f_X10_drift
        rw [in60.1 hv, mHalf.2 hd, if_neg z10, if_pos rfl]
  · refine op_0 h (r := -1) ?_ ?_
    · unfold f_X9_drift
      by_cases z : b < 1
      · rw [if_pos z]
      · rw [if_neg z, if_pos (g2.mpr (by rw [g1] at z; omega))]
    · unfold f_X10_drift
      rw [in60.2 hv, if_pos rfl]
