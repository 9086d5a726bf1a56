/-! text: tokens -/
abbrev Ft := Nat × Nat
abbrev Tk := Nat × Nat × Nat × Nat
/-- the first place from i on, d places at most, that has no byte from lo to hi -/
def rn (b : Nat → Nat) (lo hi : Nat) : Nat → Nat → Nat
  | 0, i => i
  | d + 1, i => if lo ≤ b i ∧ b i ≤ hi then rn b lo hi d (i + 1) else i
def rnn (b : Nat → Nat) (n lo hi i : Nat) : Nat := rn b lo hi (n - i) i
theorem rnn_end {b : Nat → Nat} {n lo hi i : Nat} (h : n ≤ i) : rnn b n lo hi i = i := by
  unfold rnn
  rw [show n - i = 0 by omega]
  rfl
theorem rnn_go {b : Nat → Nat} {n lo hi i : Nat} (h : i < n) (hb : lo ≤ b i ∧ b i ≤ hi) : rnn b n lo hi i = rnn b n lo hi (i + 1) := by
  unfold rnn
  rw [show n - i = (n - (i + 1)) + 1 by omega]
  conv => lhs; unfold rn
  rw [if_pos hb]
theorem rnn_stop {b : Nat → Nat} {n lo hi i : Nat} (hb : ¬ (lo ≤ b i ∧ b i ≤ hi)) : rnn b n lo hi i = i := by
  unfold rnn
  rcases n - i with _ | d
  · rfl
  · unfold rn
    rw [if_neg hb]
theorem rn_ge (b : Nat → Nat) (lo hi : Nat) : ∀ d i, i ≤ rn b lo hi d i ∧ rn b lo hi d i ≤ i + d := by
  intro d
  induction d with
  | zero => intro i; exact ⟨Nat.le_refl _, Nat.le_refl _⟩
  | succ d ih =>
    intro i
    unfold rn
    split
    · have := ih (i + 1); omega
    · omega
theorem rnn_ge {b : Nat → Nat} {n lo hi i : Nat} (h : i ≤ n) : i ≤ rnn b n lo hi i ∧ rnn b n lo hi i ≤ n := by
  have := rn_ge b lo hi (n - i) i
  unfold rnn
  omega
theorem rnn_gt {b : Nat → Nat} {n lo hi i : Nat} (h : i < n) (hb : lo ≤ b i ∧ b i ≤ hi) : i < rnn b n lo hi i := by
  rw [rnn_go h hb]
  have := rnn_ge (b := b) (lo := lo) (hi := hi) (show i + 1 ≤ n by omega)
  omega
/-- places before the end of a row of bytes have such bytes -/
theorem rn_in {b : Nat → Nat} {lo hi : Nat} : ∀ d i j, i ≤ j → j < rn b lo hi d i → lo ≤ b j ∧ b j ≤ hi := by
  intro d
  induction d with
  | zero => intro i j h1 h2; unfold rn at h2; omega
  | succ d ih =>
    intro i j h1 h2
    unfold rn at h2
    by_cases hb : lo ≤ b i ∧ b i ≤ hi
    · rw [if_pos hb] at h2
      by_cases e : j = i
      · rw [e]; exact hb
      · exact ih (i + 1) j (by omega) h2
    · rw [if_neg hb] at h2
      omega
/-- a token from place e on: (kind, start, end, value), or a fault -/
def tkAt (b : Nat → Nat) (n s : Nat) : Ft ⊕ Tk :=
  if n ≤ s then .inr (0, s, s, 0)
  else if 97 ≤ b s ∧ b s ≤ 122 then .inr (1, s, rnn b n 97 122 s, 0)
  else if 48 ≤ b s ∧ b s ≤ 57 then (if 2 < rnn b n 48 57 s - s then .inl (1, s) else .inr (2, s, rnn b n 48 57 s, if rnn b n 48 57 s - s = 2 then 10 * (b s - 48) + (b (s + 1) - 48) else b s - 48))
  else if b s = 59 then .inr (3, s, s + 1, 0)
  else .inl (1, s)
def lx (b : Nat → Nat) (n e : Nat) : Ft ⊕ Tk := tkAt b n (rnn b n 32 32 e)
theorem lx_ok {b : Nat → Nat} {n e : Nat} (he : e ≤ n) {t : Tk} (h : lx b n e = .inr t) : e ≤ t.2.1 ∧ t.2.1 ≤ t.2.2.1 ∧ t.2.2.1 ≤ n ∧ t.1 ≤ 3 ∧ (t.1 ≠ 0 → t.2.1 < t.2.2.1) ∧ t.2.2.2 ≤ 99 := by
  have hs := rnn_ge (b := b) (lo := 32) (hi := 32) he
  unfold lx at h
  generalize rnn b n 32 32 e = s at h hs
  unfold tkAt at h
  by_cases h1 : n ≤ s
  · rw [if_pos h1] at h
    injection h with h
    subst h
    dsimp only
    omega
  · rw [if_neg h1] at h
    by_cases h2 : 97 ≤ b s ∧ b s ≤ 122
    · rw [if_pos h2] at h
      injection h with h
      subst h
      have := rnn_gt (n := n) (by omega) h2
      have := rnn_ge (b := b) (lo := 97) (hi := 122) hs.2
      dsimp only
      omega
    · rw [if_neg h2] at h
      by_cases h3 : 48 ≤ b s ∧ b s ≤ 57
      · rw [if_pos h3] at h
        by_cases h4 : 2 < rnn b n 48 57 s - s
        · rw [if_pos h4] at h
          cases h
        · rw [if_neg h4] at h
          injection h with h
          subst h
          have g1 := rnn_gt (n := n) (by omega) h3
          have g2 := rnn_ge (b := b) (lo := 48) (hi := 57) hs.2
          refine ⟨by dsimp only; omega, by dsimp only; omega, by dsimp only; omega, by dsimp only; omega, fun _ => g1, ?_⟩
          dsimp only
          by_cases h5 : rnn b n 48 57 s - s = 2
          · rw [if_pos h5]
            have := rn_in (b := b) (lo := 48) (hi := 57) (n - s) s (s + 1) (by omega) (by unfold rnn at h5; omega)
            omega
          · rw [if_neg h5]
            omega
      · rw [if_neg h3] at h
        by_cases h4 : b s = 59
        · rw [if_pos h4] at h
          injection h with h
          subst h
          dsimp only
          omega
        · rw [if_neg h4] at h
          cases h
/-- the class's tape -/
def TX (b : Nat → Nat) (n : Nat) (σ : Sg) : Prop := n ≤ 160 ∧ σ 54 1 = nI n ∧ ∀ i, i < n → b i ≤ 127 ∧ σ 55 i = nI (b i)
/-- the reference's -/
def TM (b : Nat → Nat) (n : Nat) (σ : Sg) : Prop := n ≤ 160 ∧ σ 75 6 = nI n ∧ ∀ i, i < n → b i ≤ 127 ∧ σ 78 i = nI (b i)
/-- the class's reader: at fault, or with a token at hand -/
def XL : Ft ⊕ Tk → Sg → Prop
  | .inl q, σ => q.1 ≠ 0 ∧ q.1 < 10 ∧ σ 56 1 = nI q.1 ∧ σ 56 3 = nI q.2
  | .inr t, σ => σ 56 1 = 0 ∧ σ 56 4 = nI (if t.1 = 0 then 4 else t.1) ∧ σ 56 5 = nI t.2.1 ∧ σ 56 6 = nI t.2.2.1 ∧ (t.1 = 2 → σ 56 7 = nI t.2.2.2)
def F56 (σ σ' : Sg) : Prop := Fr (fun q => q = 56) σ σ'
theorem F56.rf {σ : Sg} : F56 σ σ := Fr.rf
theorem F56.tr {σ σ1 σ2 : Sg} (h1 : F56 σ σ1) (h2 : F56 σ1 σ2) : F56 σ σ2 := Fr.tr h1 h2
theorem F56.u {σ σ1 : Sg} (h : F56 σ σ1) {i : Nat} {x : Int32} : F56 σ (up2 σ1 56 i x) := Fr.up h rfl
theorem TX.f {b : Nat → Nat} {n : Nat} {σ σ1 : Sg} (h : TX b n σ) (hf : F56 σ σ1) : TX b n σ1 := ⟨h.1, by rw [hf 54 (by decide)]; exact h.2.1, fun i hi => by rw [hf 55 (by decide)]; exact h.2.2 i hi⟩
theorem x_fail {c p : Nat} {σ : Sg} (hc0 : c ≠ 0) (hc : c < 10) (h1 : σ 56 1 = 0) (h5 : σ 56 5 = nI p) : XL (.inl (c, p)) (f_X4_fail (nI c) σ) ∧ F56 σ (f_X4_fail (nI c) σ) := by
  unfold f_X4_fail
  rw [if_pos h1]
  simp only [app]
  refine ⟨⟨hc0, hc, ?_, ?_⟩, F56.rf.u.u⟩
  · rw [up2_slot _ _ (by decide), up2_same]
  · rw [up2_same, up2_slot _ _ (by decide), h5]
theorem XL.ne {q : Ft} {σ : Sg} (h : XL (.inl q) σ) : ¬ σ 56 1 = 0 := by
  rw [h.2.2.1]
  exact fun z => h.1 ((nI_eq (b := 0) (by have := h.2.1; omega) (by omega)).mp z)
theorem x_fail_no {q : Ft} {σ : Sg} {c : Int32} (h : XL (.inl q) σ) : f_X4_fail c σ = σ := by
  unfold f_X4_fail
  rw [if_neg h.ne]
theorem x_adv_no {q : Ft} {σ : Sg} (h : XL (.inl q) σ) : f_X4_advance σ = some σ := by
  unfold f_X4_advance
  rw [if_neg h.ne]
theorem x_byte {b : Nat → Nat} {n i : Nat} {σ : Sg} (h : TX b n σ) (hi : i < n) : f_X8_byteAt (nI i) σ = some (nI (b i)) := by
  have h1 := h.1
  unfold f_X8_byteAt
  rw [if_neg (nlt (by omega)), h.2.1, if_neg (nnle hi (by omega)), if_neg (show ¬ (160 : Int32) ≤ nI i from nnle (b := 160) (by omega) (by omega)), if_pos (inR_of (vp_in_nI (by omega) (by omega))), nI_clamp (by omega), (h.2.2 i hi).2]
theorem x_byte_no {b : Nat → Nat} {n i : Nat} {σ : Sg} (h : TX b n σ) (hi : n ≤ i) (hi2 : i < 2 ^ 31) : f_X8_byteAt (nI i) σ = some (-1) := by
  unfold f_X8_byteAt
  rw [if_neg (nlt (by omega)), h.2.1, if_pos (nle hi (by omega))]
theorem x_run {b : Nat → Nat} {n i lo hi : Nat} {σ : Sg} (h : TX b n σ) (hin : i ≤ n) (hlo : lo < 2 ^ 31) (hhi : hi < 2 ^ 31) : f_X8_endOfRun (nI i) (nI lo) (nI hi) σ = some (nI (rnn b n lo hi i)) := by
  have h1 := h.1
  have key : Ok (f_X8_endOfRun (nI i) (nI lo) (nI hi) σ) (fun y => y = nI (rnn b n lo hi i)) := by
    unfold f_X8_endOfRun
    rw [iMax_0n (by omega)]
    generalize hR : rnn b n lo hi i = R
    refine ok_bind (Q := fun y => y = nI R) ?_ (fun y hy => ok_some hy)
    refine wh_1 (P := fun k (x : Int32) => i + k ≤ n ∧ x = nI (i + k) ∧ rnn b n lo hi (i + k) = R) 160 (by omega) ⟨by omega, rfl, hR⟩ ?_
    rintro k x hk ⟨e0, e1, e2⟩
    subst e1
    unfold b_X8_endOfRun_7
    rw [h.2.1]
    by_cases hlt : i + k < n
    · have hv : inR (nI (i + k)) 160 = true := inR_of (vp_in_nI (by omega) (by omega))
      refine ok_f (nnle hlt (by omega)) (ok_f (show ¬ (160 : Int32) ≤ nI (i + k) from nnle (b := 160) (by omega) (by omega)) (ok_t hv ?_))
      obtain ⟨b1, b2⟩ := h.2.2 _ hlt
      rw [nI_clamp (by omega), b2]
      by_cases c1 : b (i + k) < lo
      · refine ok_t (nI_lt c1 (by omega)) (ok_some (Or.inr ⟨_, rfl, ?_⟩))
        rw [← e2, rnn_stop (by omega)]
      · refine ok_f (fun z => c1 ((nI_ltI (by omega) (by omega)).mp z)) (ok_t hv ?_)
        by_cases c2 : hi < b (i + k)
        · refine ok_t (nI_lt c2 (by omega)) (ok_some (Or.inr ⟨_, rfl, ?_⟩))
          rw [← e2, rnn_stop (by omega)]
        · refine ok_f (fun z => c2 ((nI_ltI (by omega) (by omega)).mp z)) (ok_some (Or.inl ⟨by omega, _, rfl, by omega, nI_1 _, ?_⟩))
          rw [← e2, rnn_go hlt (by omega)]
          rfl
    · refine ok_t (nle (by omega) (by omega)) (ok_some (Or.inr ⟨_, rfl, ?_⟩))
      rw [← e2, rnn_end (by omega)]
  obtain ⟨y, e, hy⟩ := key
  rw [e, hy]
theorem nI_sub {a b : Nat} (h : b ≤ a) : nI a - nI b = nI (a - b) := (Int32.ofNat_sub a b h).symm
theorem x_value {b : Nat → Nat} {n s e : Nat} {σ : Sg} (h : TX b n σ) (hs : s < e) (he : e ≤ n) (h1 : σ 56 1 = 0) (h4 : σ 56 4 = 2) (h5 : σ 56 5 = nI s) (h6 : σ 56 6 = nI e) (hd : ∀ j, s ≤ j → j < e → 48 ≤ b j ∧ b j ≤ 57) :
    Ok (f_X4_valueNumber σ) (fun y => XL (if 2 < e - s then .inl (1, s) else .inr (2, s, e, if e - s = 2 then 10 * (b s - 48) + (b (s + 1) - 48) else b s - 48)) y ∧ F56 σ y) := by
  have hn := h.1
  unfold f_X4_valueNumber
  rw [h5, h6, nI_sub (by omega)]
  by_cases h2 : 2 < e - s
  · rw [if_pos h2]
    refine ok_f (show ¬ nI (e - s) ≤ nI 2 from nnle h2 (by omega)) (ok_some ?_)
    exact x_fail (c := 1) (by omega) (by omega) h1 h5
  · rw [if_neg h2]
    refine ok_t (show nI (e - s) ≤ nI 2 from nle (by omega) (by omega)) ?_
    obtain ⟨m, rfl⟩ : ∃ m, e = m + 1 := ⟨e - 1, by omega⟩
    rw [nI_pred, x_byte h (by omega), Option.bind_some]
    have q1 := hd s (by omega) (by omega)
    have q2 := hd m (by omega) (by omega)
    refine ok_bind (Q := fun j => j = nI (if m + 1 - s = 2 then 10 * (b s - 48) + (b (s + 1) - 48) else b s - 48)) ?_ (fun j hj => ok_some ⟨⟨?_, ?_, ?_, ?_, fun _ => ?_⟩, F56.rf.u⟩)
    · by_cases h3 : m + 1 - s = 2
      · obtain rfl : m = s + 1 := by omega
        rw [if_pos h3]
        refine ok_t (by rw [h3]; rfl) ?_
        rw [x_byte h (by omega), Option.bind_some, show (48 : Int32) = nI 48 from rfl, show (10 : Int32) = nI 10 from rfl, nI_sub q1.1, nI_sub q2.1, pk_mul, nI_add]
        exact ok_some rfl
      · obtain rfl : m = s := by omega
        rw [if_neg h3]
        refine ok_f (fun z => h3 ((nI_eq (b := 2) (by omega) (by omega)).mp z)) ?_
        rw [show (48 : Int32) = nI 48 from rfl, nI_sub q1.1]
        exact ok_some rfl
    · rw [up2_slot _ _ (by decide)]; exact h1
    · rw [up2_slot _ _ (by decide)]; exact h4
    · rw [up2_slot _ _ (by decide)]; exact h5
    · rw [up2_slot _ _ (by decide)]; exact h6
    · rw [up2_same]; exact hj
theorem x_adv {b : Nat → Nat} {n e : Nat} {σ : Sg} (h : TX b n σ) (he : e ≤ n) (h1 : σ 56 1 = 0) (h6 : σ 56 6 = nI e) : Ok (f_X4_advance σ) (fun y => XL (lx b n e) y ∧ F56 σ y) := by
  have hn := h.1
  have hs := rnn_ge (b := b) (lo := 32) (hi := 32) he
  unfold f_X4_advance
  refine ok_t h1 ?_
  have hr : f_X8_endOfRun (nI e) 32 32 σ = some (nI (rnn b n 32 32 e)) := x_run (lo := 32) (hi := 32) h he (by omega) (by omega)
  rw [h6, hr, Option.bind_some]
  unfold lx
  generalize rnn b n 32 32 e = s at hs
  refine ok_app ?_
  have hF : F56 σ (up2 σ 56 5 (nI s)) := F56.rf.u
  have hT : TX b n (up2 σ 56 5 (nI s)) := h.f hF
  have k1 : up2 σ 56 5 (nI s) 56 1 = 0 := by rw [up2_slot _ _ (by decide)]; exact h1
  have k5 : up2 σ 56 5 (nI s) 56 5 = nI s := up2_same _ _ _ _
  generalize up2 σ 56 5 (nI s) = u at hF hT k1 k5
  rw [k5]
  unfold tkAt
  by_cases c1 : n ≤ s
  · rw [if_pos c1, x_byte_no hT c1 (by omega), Option.bind_some, hT.2.1]
    refine ok_f (nI_nlt c1 (by omega)) (ok_app (ok_some ⟨⟨?_, ?_, ?_, ?_, fun z => ?_⟩, hF.u.u⟩))
    · rw [up2_slot _ _ (by decide), up2_slot _ _ (by decide)]; exact k1
    · rw [up2_slot _ _ (by decide), up2_same]; rfl
    · rw [up2_slot _ _ (by decide), up2_slot _ _ (by decide)]; exact k5
    · rw [up2_same, up2_slot _ _ (by decide)]; exact k5
    · exact absurd z (by dsimp only; omega)
  · rw [if_neg c1, x_byte hT (by omega), Option.bind_some, hT.2.1]
    refine ok_t (nI_lt (by omega) (by omega)) ?_
    have hb := (hT.2.2 s (by omega)).1
    have semi : b s = 59 → Ok (app (up2 u 56 4 (3 : Int32)) fun (σ9 : Sg) => some (up2 σ9 56 6 ((σ9 56 5) + (1 : Int32)))) (fun y => XL (.inr (3, s, s + 1, 0)) y ∧ F56 σ y) := fun hc => by
      refine ok_app (ok_some ⟨⟨?_, ?_, ?_, ?_, fun z => ?_⟩, hF.u.u⟩)
      · rw [up2_slot _ _ (by decide), up2_slot _ _ (by decide)]; exact k1
      · rw [up2_slot _ _ (by decide), up2_same]; rfl
      · rw [up2_slot _ _ (by decide), up2_slot _ _ (by decide)]; exact k5
      · rw [up2_same, up2_slot _ _ (by decide), k5]; exact nI_1 _
      · exact absurd z (by dsimp only; omega)
    have bad : Ok (some (f_X4_fail (1 : Int32) u)) (fun y => XL (.inl (1, s)) y ∧ F56 σ y) := by
      obtain ⟨f1, f2⟩ := x_fail (c := 1) (by omega) (by omega) k1 k5
      exact ok_some ⟨f1, hF.tr f2⟩
    have oth : ¬ (97 ≤ b s ∧ b s ≤ 122) → ¬ (48 ≤ b s ∧ b s ≤ 57) → Ok (if nI (b s) = (59 : Int32) then app (up2 u 56 4 (3 : Int32)) fun (σ9 : Sg) => some (up2 σ9 56 6 ((σ9 56 5) + (1 : Int32))) else some (f_X4_fail (1 : Int32) u)) (fun y => XL (if 97 ≤ b s ∧ b s ≤ 122 then .inr (1, s, rnn b n 97 122 s, 0)
  else if 48 ≤ b s ∧ b s ≤ 57 then (if 2 < rnn b n 48 57 s - s then .inl (1, s) else .inr (2, s, rnn b n 48 57 s, if rnn b n 48 57 s - s = 2 then 10 * (b s - 48) + (b (s + 1) - 48) else b s - 48))
  else if b s = 59 then .inr (3, s, s + 1, 0)
  else .inl (1, s)) y ∧ F56 σ y) := fun o1 o2 => by
      rw [if_neg o1, if_neg o2]
      by_cases c3 : b s = 59
      · rw [if_pos c3]
        exact ok_t (by rw [c3]; rfl) (semi c3)
      · rw [if_neg c3]
        exact ok_f (fun z => c3 ((nI_eq (b := 59) (by omega) (by omega)).mp z)) bad
    have dig : (48 ≤ b s ∧ b s ≤ 57) → Ok (app (up2 u 56 4 (2 : Int32)) fun (σ13 : Sg) =>
            (f_X8_endOfRun (σ13 56 5) (48 : Int32) (57 : Int32) σ13).bind fun (y14 : Int32) =>
            app (up2 σ13 56 6 y14) fun (σ15 : Sg) =>
            (f_X4_valueNumber σ15).bind fun (y16 : Sg) =>
            some y16) (fun y => XL (if 97 ≤ b s ∧ b s ≤ 122 then .inr (1, s, rnn b n 97 122 s, 0)
  else if 48 ≤ b s ∧ b s ≤ 57 then (if 2 < rnn b n 48 57 s - s then .inl (1, s) else .inr (2, s, rnn b n 48 57 s, if rnn b n 48 57 s - s = 2 then 10 * (b s - 48) + (b (s + 1) - 48) else b s - 48))
  else if b s = 59 then .inr (3, s, s + 1, 0)
  else .inl (1, s)) y ∧ F56 σ y) := fun d1 => by
      rw [if_neg (show ¬ (97 ≤ b s ∧ b s ≤ 122) by omega), if_pos d1]
      have g1 := rnn_gt (n := n) (by omega) d1
      have g2 := rnn_ge (b := b) (lo := 48) (hi := 57) hs.2
      have g3 : ∀ j, s ≤ j → j < rnn b n 48 57 s → 48 ≤ b j ∧ b j ≤ 57 := fun j q1 q2 => rn_in (n - s) s j q1 q2
      refine ok_app ?_
      have hF2 : F56 σ (up2 u 56 4 2) := hF.u
      have hr2 : f_X8_endOfRun (nI s) 48 57 (up2 u 56 4 2) = some (nI (rnn b n 48 57 s)) := x_run (lo := 48) (hi := 57) (h.f hF2) hs.2 (by omega) (by omega)
      rw [show up2 u 56 4 (2 : Int32) 56 5 = nI s from by rw [up2_slot _ _ (by decide)]; exact k5, hr2, Option.bind_some]
      refine ok_app ?_
      generalize rnn b n 48 57 s = e' at g1 g2 g3
      have hF3 : F56 σ (up2 (up2 u 56 4 2) 56 6 (nI e')) := hF2.u
      refine ok_bind (x_value (s := s) (e := e') (h.f hF3) g1 g2.2 ?_ ?_ ?_ (up2_same _ _ _ _) g3) (fun y hy => ok_some ⟨hy.1, hF3.tr hy.2⟩)
      · rw [up2_slot _ _ (by decide), up2_slot _ _ (by decide)]; exact k1
      · rw [up2_slot _ _ (by decide), up2_same]
      · rw [up2_slot _ _ (by decide), up2_slot _ _ (by decide)]; exact k5
    by_cases c2 : b s < 97
    · refine ok_t (show nI (b s) < nI 97 from nI_lt c2 (by omega)) ?_
      by_cases c3 : b s < 48
      · exact ok_t (show nI (b s) < nI 48 from nI_lt c3 (by omega)) (oth (by omega) (by omega))
      · refine ok_f (show ¬ nI (b s) < nI 48 from nI_nlt (by omega) (by omega)) ?_
        by_cases c4 : 57 < b s
        · exact ok_t (show nI 57 < nI (b s) from nI_lt c4 (by omega)) (oth (by omega) (by omega))
        · exact ok_f (show ¬ nI 57 < nI (b s) from nI_nlt (by omega) (by omega)) (dig (by omega))
    · refine ok_f (show ¬ nI (b s) < nI 97 from nI_nlt (by omega) (by omega)) ?_
      by_cases c3 : 122 < b s
      · refine ok_t (show nI 122 < nI (b s) from nI_lt c3 (by omega)) ?_
        refine ok_f (show ¬ nI (b s) < nI 48 from nI_nlt (by omega) (by omega)) ?_
        exact ok_t (show nI 57 < nI (b s) from nI_lt (by omega) (by omega)) (oth (by omega) (by omega))
      · refine ok_f (show ¬ nI 122 < nI (b s) from nI_nlt (by omega) (by omega)) (ok_app ?_)
        rw [if_pos (show 97 ≤ b s ∧ b s ≤ 122 by omega)]
        have hF2 : F56 σ (up2 u 56 4 1) := hF.u
        have hr2 : f_X8_endOfRun (nI s) 97 122 (up2 u 56 4 1) = some (nI (rnn b n 97 122 s)) := x_run (lo := 97) (hi := 122) (h.f hF2) hs.2 (by omega) (by omega)
        rw [show up2 u 56 4 (1 : Int32) 56 5 = nI s from by rw [up2_slot _ _ (by decide)]; exact k5, hr2, Option.bind_some]
        refine ok_some ⟨⟨?_, ?_, ?_, ?_, fun z => ?_⟩, hF2.u⟩
        · rw [up2_slot _ _ (by decide), up2_slot _ _ (by decide)]; exact k1
        · rw [up2_slot _ _ (by decide), up2_same]; rfl
        · rw [up2_slot _ _ (by decide), up2_slot _ _ (by decide)]; exact k5
        · rw [up2_same]
        · exact absurd z (by dsimp only; omega)
