/-! luck, mean: longs -/
def qN (n : Nat) : Int64 := Int64.ofNat n
theorem qN_add (a b : Nat) : qN a + qN b = qN (a + b) := (Int64.ofNat_add a b).symm
theorem qN_mul (a b : Nat) : qN a * qN b = qN (a * b) := (Int64.ofNat_mul a b).symm
theorem qN_div {a b : Nat} (ha : a < 2 ^ 63) (hb : b < 2 ^ 63) : qN a / qN b = qN (a / b) := (Int64.ofNat_div ha hb).symm
theorem qN_toInt {n : Nat} (h : n < 2 ^ 63) : (qN n).toInt = n := Int64.toInt_ofNat_of_lt h
theorem qN_inj {a b : Nat} (ha : a < 2 ^ 63) (hb : b < 2 ^ 63) : qN a = qN b ↔ a = b := by
  constructor
  · intro h
    have := congrArg Int64.toInt h
    rw [qN_toInt ha, qN_toInt hb] at this
    omega
  · intro h; rw [h]
theorem nI_long {n : Nat} (h : n < 2 ^ 31) : (nI n).toInt64 = qN n := by
  apply Int64.toInt_inj.mp
  rw [Int32.toInt_toInt64, nI_toInt h, qN_toInt (by omega)]
theorem qN_mod {a b : Nat} (ha : a < 2 ^ 63) (hb : b < 2 ^ 63) : qN a - qN a / qN b * qN b = qN (a % b) := by
  rw [qN_div ha hb, qN_mul]
  have h1 := Nat.div_add_mod a b
  have h2 : a = a % b + a / b * b := by rw [Nat.mul_comm (a / b) b]; omega
  conv => lhs; lhs; rw [h2]
  rw [← qN_add]
  simp
theorem nzL_pos {n : Nat} (h0 : 0 < n) (h : n < 2 ^ 63) : nzL (qN n) = true := by
  have : ¬ qN n = qN 0 := fun e => by rw [qN_inj h (by omega)] at e; omega
  have h2 : ¬ qN n = 0 := this
  simpa [nzL] using h2
theorem lcmp_zero {n : Nat} (h : n < 2 ^ 63) : lg_cmp (qN n) 0 = 0 ↔ n = 0 := by
  constructor
  · intro e
    unfold lg_cmp at e
    by_cases z : qN n = 0
    · exact (qN_inj h (by omega)).mp z
    · by_cases q : qN n > 0
      · rw [if_pos q] at e; exact absurd e (by decide)
      · rw [if_neg q, if_neg z] at e; exact absurd e (by decide)
  · intro e
    rw [e]
    decide
theorem lcmp_pos {n : Nat} (h : n < 2 ^ 63) : 0 < lg_cmp (qN n) 0 ↔ 0 < n := by
  rw [lg_cmp_gt, Int64.lt_iff_toInt_lt, qN_toInt h]
  have : (0 : Int64).toInt = 0 := rfl
  omega
theorem lcmp_le {n : Nat} (h : n < 2 ^ 63) : lg_cmp (qN n) 0 ≤ 0 ↔ n = 0 := by
  have h1 := lcmp_pos h
  rw [← Int32.not_lt, h1]
  omega
/-! the class's table -/
def tl (F T : Nat → Nat) : Nat → Nat
  | 0 => 0
  | d + 1 => T (79 - d) * F (79 - d) + tl F T d
/-- what is still to be done from place i on -/
def rm (F T : Nat → Nat) (i : Nat) : Nat := tl F T (80 - i)
theorem rm_s (F T : Nat → Nat) {i : Nat} (h : i < 80) : rm F T i = T i * F i + rm F T (i + 1) := by
  unfold rm
  rw [show 80 - i = (79 - i) + 1 by omega, show 80 - (i + 1) = 79 - i by omega]
  conv => lhs; unfold tl
  rw [show 79 - (79 - i) = i by omega]
theorem rm_end (F T : Nat → Nat) : rm F T 80 = 0 := rfl
def ut (T : Nat → Nat) (j x : Nat) : Nat → Nat := fun i => if i = j then T j + x else T i
theorem rm_ut {F T : Nat → Nat} {j x : Nat} (hj : j < 80) : rm F (ut T j x) 0 = rm F T 0 + x * F j := by
  have key : ∀ d, d ≤ 80 → tl F (ut T j x) d = tl F T d + if 80 - d ≤ j then x * F j else 0 := by
    intro d
    induction d with
    | zero => intro _; rw [if_neg (by omega)]; rfl
    | succ d ih =>
      intro hd
      unfold tl
      rw [ih (by omega)]
      by_cases e : 79 - d = j
      · rw [if_neg (by omega), if_pos (by omega), e]
        unfold ut
        rw [if_pos rfl, Nat.add_mul]
        omega
      · have eu : ut T j x (79 - d) = T (79 - d) := by unfold ut; rw [if_neg e]
        rw [eu]
        by_cases z : 80 - d ≤ j
        · rw [if_pos z, if_pos (by omega)]; omega
        · rw [if_neg z, if_neg (by omega)]; omega
  have := key 80 (Nat.le_refl _)
  rw [if_pos (by omega)] at this
  exact this
theorem rm_skip {F T : Nat → Nat} : ∀ d i, i + d ≤ 80 → (∀ j, i ≤ j → j < i + d → T j * F j = 0) → rm F T i = rm F T (i + d) := by
  intro d
  induction d with
  | zero => intro i _ _; rfl
  | succ d ih =>
    intro i h hz
    rw [rm_s F T (by omega), hz i (Nat.le_refl _) (by omega), Nat.zero_add, ih (i + 1) (by omega) (fun j h1 h2 => hz j (by omega) (by omega))]
    congr 1
    omega
theorem rm_mono {F T : Nat → Nat} : ∀ d i, i + d ≤ 80 → rm F T (i + d) ≤ rm F T i := by
  intro d
  induction d with
  | zero => intro i _; exact Nat.le_refl _
  | succ d ih =>
    intro i h
    rw [rm_s F T (i := i) (by omega)]
    have := ih (i + 1) (by omega)
    rw [show i + 1 + d = i + (d + 1) by omega] at this
    omega
theorem rm_zero (F : Nat → Nat) : rm F (fun _ => 0) 0 = 0 := by
  have := rm_skip (F := F) (T := fun _ => 0) 80 0 (by omega) (fun j _ _ => Nat.zero_mul _)
  rw [this]
  rfl
/-- the value by place: column and speed -/
def FV (g : Nat → Nat) (k v : Nat) (a : Nat → Nat) (y n row j : Nat) : Nat := EE g k v a y n row (j / 10) (j % 10)
def aW (A : Pg) (r p : Nat) : Nat := if p ≠ 0 ∧ A (7 + (p - 1)) = r then 1 else 0
def a0 (_ : Nat) : Nat := 0
theorem aW_le (A : Pg) (r p : Nat) : aW A r p ≤ 1 := by unfold aW; split <;> omega
/-- in a row: what is won, what is met, the weights here and below -/
def OI (A : Pg) (k v r CW CM row i : Nat) (τ : Sl) : Prop := ∃ (W M : Nat) (T U : Nat → Nat), τ 27 0 = qN W ∧ τ 27 1 = qN M ∧ (∀ j, j < 80 → τ 28 j = qN (T j * 10 ^ (10 - row))) ∧ (∀ j, j < 80 → τ 29 j = qN (U j * 10 ^ (9 - row))) ∧ (∀ c, c < 8 → T (10 * c) = 0 ∧ U (10 * c) = 0) ∧
  W + rm (FV (gOf A) k v (aW A r) 0 (9 - row) (row + 1)) U 0 + rm (FV (gOf A) k v (aW A r) 0 (10 - row) row) T i = CW ∧
  M + rm (FV (gOf A) k v a0 1 (9 - row) (row + 1)) U 0 + rm (FV (gOf A) k v a0 1 (10 - row) row) T i = CM ∧
  rm (fun _ => 10 ^ (9 - row)) U 0 + rm (fun _ => 10 ^ (10 - row)) T i ≤ 10 ^ 10
theorem x_add {w c s x : Nat} {τ : Sl} (hw : w = 28 ∨ w = 29) (hc : c < 8) (hs : s < 10) : f_X3_add w (nI c) (nI s) (qN x) τ = some (up2 τ w (10 * c + s) (τ w (10 * c + s) + qN x)) := by
  unfold f_X3_add
  simp only [app]
  rw [show (10 : Int32) = nI 10 from rfl, pk_mul, nI_add, if_neg (nlt (by omega)), if_neg (show ¬ (80 : Int32) ≤ nI (10 * c + s) from nnle (b := 80) (by omega) (by omega)), if_pos (inR_of (vp_in_nI (by omega) (by omega))), if_pos (inR_of (vp_in_nI (by omega) (by omega))), nI_clamp (by omega)]
/-- a place is empty: the weight goes on below -/
theorem OI_on {A : Pg} {k v r CW CM row c s : Nat} {τ : Sl} (hr : row < 10) (hc : c < 8) (hs1 : 1 ≤ s) (hs : s < 10) (hg : gOf A (10 * row + c) = 0) (h : OI A k v r CW CM row (10 * c + s) τ) :
    Ok (f_X3_add 29 (nI c) (nI s) (τ 28 (10 * c + s)) τ) (OI A k v r CW CM row (10 * c + s + 1)) := by
  obtain ⟨W, M, T, U, h1, h2, h3, h4, h5, h6, h7, h8⟩ := h
  have hi : 10 * c + s < 80 := by omega
  have ep : 10 ^ (10 - row) = 10 * 10 ^ (9 - row) := by rw [show 10 - row = (9 - row) + 1 by omega, Nat.pow_succ, Nat.mul_comm]
  rw [h3 _ hi, x_add (Or.inr rfl) hc hs]
  rw [rm_s _ T hi] at h6 h7 h8
  have eF : ∀ a y, FV (gOf A) k v a y (10 - row) row (10 * c + s) = 10 * FV (gOf A) k v a y (9 - row) (row + 1) (10 * c + s) := fun a y => by
    unfold FV
    rw [show (10 * c + s) / 10 = c by omega, show (10 * c + s) % 10 = s by omega, show 10 - row = (9 - row) + 1 by omega]
    conv => lhs; unfold EE
    rw [if_neg (by omega), if_pos hg]
  have mv : ∀ X Y : Nat, X * (10 * Y) = 10 * X * Y := fun X Y => by rw [Nat.mul_left_comm, Nat.mul_assoc]
  refine ok_some ⟨W, M, T, ut U (10 * c + s) (10 * T (10 * c + s)), by rw [up2_cell _ _ _ (by decide)]; exact h1, by rw [up2_cell _ _ _ (by decide)]; exact h2, fun j hj => by rw [up2_cell _ _ _ (by decide)]; exact h3 j hj, fun j hj => ?_, fun c' hc' => ⟨(h5 c' hc').1, ?_⟩, ?_, ?_, ?_⟩
  · by_cases e : j = 10 * c + s
    · subst e
      rw [up2_same, h4 _ hi, qN_add]
      unfold ut
      rw [if_pos rfl, ep, mv, Nat.add_mul]
    · rw [up2_slot _ _ e, h4 j hj]
      unfold ut
      rw [if_neg e]
  · unfold ut
    rw [if_neg (by omega)]
    exact (h5 c' hc').2
  · rw [rm_ut hi, ← mv, ← eF]
    omega
  · rw [rm_ut hi, ← mv, ← eF]
    omega
  · rw [rm_ut hi, ← mv, ← ep]
    omega
theorem x_goOn {A : Pg} {k v r CW CM row c : Nat} {τ : Sl} (hr : row < 10) (hc : c < 8) (hg : gOf A (10 * row + c) = 0) (h : OI A k v r CW CM row (10 * c) τ) : Ok (f_X3_goOn (nI c) τ) (OI A k v r CW CM row (10 * (c + 1))) := by
  unfold f_X3_goOn
  refine ok_bind (Q := fun e => OI A k v r CW CM row (10 * c + 9 + 1) e.2) ?_ (fun e he => ok_some he)
  refine wh_0 (P := fun t (e : Int32 × Sl) => e.1 = nI (1 + t) ∧ OI A k v r CW CM row (10 * c + t + 1) e.2) 9 (by omega) ⟨rfl, ?_⟩ ?_
  · obtain ⟨W, M, T, U, h1, h2, h3, h4, h5, h6, h7, h8⟩ := h
    have hz := (h5 c hc).1
    have e : ∀ F : Nat → Nat, rm F T (10 * c) = rm F T (10 * c + 0 + 1) := fun F => by
      rw [rm_s F T (by omega), hz, Nat.zero_mul, Nat.zero_add, Nat.add_zero]
    exact ⟨W, M, T, U, h1, h2, h3, h4, h5, by rw [← e]; exact h6, by rw [← e]; exact h7, by rw [← e]; exact h8⟩
  rintro t ⟨x, u⟩ ht ⟨e1, hI⟩
  dsimp at e1 hI
  subst e1
  unfold b_X3_goOn_2
  dsimp +instances only
  by_cases hlt : t < 9
  · left
    refine ⟨hlt, ok_f (show ¬ nI 10 ≤ nI (1 + t) from nnle (by omega) (by omega)) ?_⟩
    rw [show (10 : Int32) = nI 10 from rfl, pk_mul, nI_add]
    refine ok_in (vp_in_nI (by omega) (by omega)) ?_
    rw [nI_clamp (by omega)]
    rw [show 10 * c + t + 1 = 10 * c + (1 + t) by omega] at hI
    refine ok_bind (OI_on hr hc (by omega) (by omega) hg hI) (fun y hy => ok_some ⟨_, rfl, nI_1 _, ?_⟩)
    rw [show 10 * c + (t + 1) + 1 = 10 * c + (1 + t) + 1 by omega]
    exact hy
  · right
    obtain rfl : t = 9 := by omega
    exact ok_t (by decide) (ok_some ⟨_, rfl, hI⟩)
theorem OI_slug {A : Pg} {k v r CW CM row c : Nat} {τ : Sl} (hr : row < 10) (hc : c < 8) (hg : gOf A (10 * row + c) = 1) (h : OI A k v r CW CM row (10 * c) τ) : OI A k v r CW CM row (10 * (c + 1)) τ := by
  obtain ⟨W, M, T, U, h1, h2, h3, h4, h5, h6, h7, h8⟩ := h
  have eF : ∀ a y j, 10 * c ≤ j → j < 10 * c + 10 → T j * FV (gOf A) k v a y (10 - row) row j = 0 := fun a y j q1 q2 => by
    unfold FV
    rw [show j / 10 = c by omega, show 10 - row = (9 - row) + 1 by omega]
    unfold EE
    rw [if_pos hg, Nat.mul_zero]
  have e : ∀ a y, rm (FV (gOf A) k v a y (10 - row) row) T (10 * c) = rm (FV (gOf A) k v a y (10 - row) row) T (10 * (c + 1)) := fun a y => rm_skip 10 (10 * c) (by omega) (eF a y)
  have e2 := rm_mono (F := fun _ => 10 ^ (10 - row)) (T := T) 10 (10 * c) (by omega)
  refine ⟨W, M, T, U, h1, h2, h3, h4, h5, by rw [← e]; exact h6, by rw [← e]; exact h7, ?_⟩
  rw [show 10 * (c + 1) = 10 * c + 10 by omega]
  omega
theorem xturn2 : ∀ k, k < 4 → ∀ r, r < 10 → ∀ c, c < 8 → f_X1_columnBeside (nI c) (-(f_X1_turn (nI k) (nI r))) = nI (tcol k r c true) := by decide +kernel
theorem tenv : ∀ v, v ≤ 10 → (10 : Int32) - nI v = nI (10 - v) := by decide +kernel
/-- a peg is met -/
theorem x_meet {A : Pg} {kd v r CW CM row c p : Nat} {τ : Sl} (hk : kd < 4) (hv : v ≤ 10) (hr : row < 10) (hc : c < 8) (hg : gOf A (10 * row + c) = p + 2) (h : OI A kd v r CW CM row (10 * c) τ) : Ok (f_X3_meet (nI kd) (nI row) (nI c) (nI v) (nI (aW A r (p + 1))) τ) (OI A kd v r CW CM row (10 * (c + 1))) := by
  unfold f_X3_meet
  refine ok_app (ok_app (ok_app ?_))
  rw [xturn kd hk row hr c hc, xturn2 kd hk row hr c hc]
  refine ok_bind (Q := fun e => OI A kd v r CW CM row (10 * c + 10) e.2) ?_ (fun e he => ok_some he)
  refine wh_0 (P := fun t (e : Int32 × Sl) => e.1 = nI t ∧ OI A kd v r CW CM row (10 * c + t) e.2) 10 (by omega) ⟨rfl, h⟩ ?_
  rintro t ⟨x, u⟩ ht ⟨e1, hI⟩
  dsimp at e1 hI
  subst e1
  unfold b_X3_meet_27
  dsimp +instances only
  by_cases hlt : t < 10
  · left
    refine ⟨hlt, ok_f (show ¬ nI 10 ≤ nI t from nnle (by omega) (by omega)) ?_⟩
    rw [show (10 : Int32) = nI 10 from rfl, pk_mul, nI_add]
    have hi : 10 * c + t < 80 := by omega
    refine ok_in (vp_in_nI hi (by omega)) ?_
    rw [nI_clamp (by omega), xloss kd hk]
    obtain ⟨W, M, T, U, h1, h2, h3, h4, h5, h6, h7, h8⟩ := hI
    obtain ⟨n, hn⟩ : ∃ n, 10 - row = n + 1 := ⟨9 - row, by omega⟩
    have hn9 : 9 - row = n := by omega
    rw [hn] at h3 h6 h7 h8
    rw [hn9] at h4 h6 h7 h8
    have eF : ∀ a y, FV (gOf A) kd v a y (n + 1) row (10 * c + t) = if t ≤ lose kd then 10 ^ (n + 1) * (a (p + 1) + y) else 10 ^ (n + 1) * y + ((10 - v) * EE (gOf A) kd v a y n (row + 1) (tcol kd row c false) (t - lose kd) + v * EE (gOf A) kd v a y n (row + 1) (tcol kd row c true) (t - lose kd)) := fun a y => by
      unfold FV
      rw [show (10 * c + t) / 10 = c by omega, show (10 * c + t) % 10 = t by omega]
      conv => lhs; unfold EE
      rw [if_neg (by omega), if_neg (by omega), hg]
      rfl
    have ep : 10 ^ (n + 1) = 10 * 10 ^ n := by rw [Nat.pow_succ, Nat.mul_comm]
    rw [h3 _ hi]
    refine ok_app (ok_app ?_)
    rw [rm_s _ T hi] at h6 h7 h8
    refine ok_bind (Q := OI A kd v r CW CM row (10 * c + t + 1)) ?_ (fun y hy => ok_some ⟨_, rfl, nI_1 _, hy⟩)
    generalize hX : 10 ^ n = X at *
    rw [ep] at h3 h8 eF ⊢
    generalize hTi : T (10 * c + t) = Ti at *
    have hb : Ti * (10 * X) ≤ 10 ^ 10 := by omega
    have h10 : (10 : Nat) ^ 10 = 10000000000 := by decide
    obtain ⟨q1, q2⟩ := sp_sub t hlt kd hk
    by_cases hsp : lose kd < t
    · rw [q1 hsp]
      refine ok_f (show ¬ nI (t - lose kd) ≤ nI 0 from nnle (by omega) (by omega)) (ok_app ?_)
      have t1 := tcol_lt kd row c false
      have t2 := tcol_lt kd row c true
      have ed : qN (Ti * (10 * X)) / (10 : Int64) = qN (Ti * X) := by
        rw [show (10 : Int64) = qN 10 from rfl, qN_div (by omega) (by omega)]
        congr 1
        rw [Nat.mul_left_comm, Nat.mul_div_cancel_left _ (by omega)]
      rw [ed, show nI 10 = (10 : Int32) from rfl, tenv v hv, nI_long (by omega), nI_long (by omega), qN_mul, qN_mul, x_add (Or.inr rfl) t1 (by omega), Option.bind_some, x_add (Or.inr rfl) t2 (by omega), Option.bind_some]
      generalize hj1 : 10 * tcol kd row c false + (t - lose kd) = j1
      generalize hj2 : 10 * tcol kd row c true + (t - lose kd) = j2
      have F1 : ∀ a y, EE (gOf A) kd v a y n (row + 1) (tcol kd row c false) (t - lose kd) = FV (gOf A) kd v a y n (row + 1) j1 := fun a y => by
        unfold FV
        rw [← hj1, show (10 * tcol kd row c false + (t - lose kd)) / 10 = tcol kd row c false by omega, show (10 * tcol kd row c false + (t - lose kd)) % 10 = t - lose kd by omega]
      have F2 : ∀ a y, EE (gOf A) kd v a y n (row + 1) (tcol kd row c true) (t - lose kd) = FV (gOf A) kd v a y n (row + 1) j2 := fun a y => by
        unfold FV
        rw [← hj2, show (10 * tcol kd row c true + (t - lose kd)) / 10 = tcol kd row c true by omega, show (10 * tcol kd row c true + (t - lose kd)) % 10 = t - lose kd by omega]
      have l1 : j1 < 80 := by omega
      have l2 : j2 < 80 := by omega
      have z1 : ∀ c', 10 * c' ≠ j1 := fun c' => by omega
      have z2 : ∀ c', 10 * c' ≠ j2 := fun c' => by omega
      have eF' : ∀ a y, Ti * FV (gOf A) kd v a y (n + 1) row (10 * c + t) = Ti * (10 * X) * y + (Ti * (10 - v) * FV (gOf A) kd v a y n (row + 1) j1 + Ti * v * FV (gOf A) kd v a y n (row + 1) j2) := fun a y => by
        rw [eF, if_neg (by omega), F1, F2]
        simp only [Nat.mul_add, Nat.mul_assoc]
      refine ok_some ⟨W, M + Ti * (10 * X), T, ut (ut U j1 (Ti * (10 - v))) j2 (Ti * v), ?_, ?_, fun j hj => ?_, fun j hj => ?_, fun c' hc' => ⟨(h5 c' hc').1, ?_⟩, ?_, ?_, ?_⟩
      · rw [up2_cell _ _ _ (by decide), up2_cell _ _ _ (by decide), up2_slot _ _ (by decide)]; exact h1
      · rw [up2_cell _ _ _ (by decide), up2_cell _ _ _ (by decide), up2_same, h2, qN_add]
      · rw [up2_cell _ _ _ (by decide), up2_cell _ _ _ (by decide), up2_cell _ _ _ (by decide), hn, ep]; exact h3 j hj
      · rw [hn9, hX]
        have base : ∀ j, j < 80 → (up2 (up2 u 27 1 (u 27 1 + qN (Ti * (10 * X)))) 29 j1 (up2 u 27 1 (u 27 1 + qN (Ti * (10 * X))) 29 j1 + qN (Ti * X * (10 - v)))) 29 j = qN (ut U j1 (Ti * (10 - v)) j * X) := fun j hj => by
          by_cases e : j = j1
          · subst e
            rw [up2_same, up2_cell _ _ _ (by decide), h4 _ hj, qN_add]
            unfold ut
            rw [if_pos rfl, Nat.add_mul, Nat.mul_right_comm]
          · rw [up2_slot _ _ e, up2_cell _ _ _ (by decide), h4 _ hj]
            unfold ut
            rw [if_neg e]
        by_cases e : j = j2
        · subst e
          rw [up2_same, base _ hj, qN_add]
          conv => rhs; unfold ut
          rw [if_pos rfl, Nat.add_mul, Nat.mul_right_comm Ti X v]
          rfl
        · rw [up2_slot _ _ e, base _ hj]
          conv => rhs; unfold ut
          rw [if_neg e]
          rfl
      · have e1 : ut (ut U j1 (Ti * (10 - v))) j2 (Ti * v) (10 * c') = U (10 * c') := by
          unfold ut
          rw [if_neg (z2 c'), if_neg (z1 c')]
        rw [e1]
        exact (h5 c' hc').2
      · rw [hn9, hn, rm_ut l2, rm_ut l1]
        have := eF' (aW A r) 0
        omega
      · rw [hn9, hn, rm_ut l2, rm_ut l1]
        have := eF' a0 1
        omega
      · rw [hn9, hn, rm_ut l2, rm_ut l1, hX, ep]
        have m1 := mix hv (Ti * X)
        have m2 : Ti * (10 - v) * X = (10 - v) * (Ti * X) := by rw [Nat.mul_comm Ti, Nat.mul_assoc]
        have m3 : Ti * v * X = v * (Ti * X) := by rw [Nat.mul_comm Ti, Nat.mul_assoc]
        have m4 : Ti * (10 * X) = 10 * (Ti * X) := Nat.mul_left_comm _ _ _
        omega
    · have hle : nI t - nI (lose kd) ≤ 0 := Int32.not_lt.mp (q2 (by omega))
      refine ok_t hle ?_
      have eF' : ∀ a y, Ti * FV (gOf A) kd v a y (n + 1) row (10 * c + t) = Ti * (10 * X) * (a (p + 1) + y) := fun a y => by
        rw [eF, if_pos (by omega)]
        simp only [Nat.mul_assoc]
      have f1 := eF' (aW A r) 0
      have f2 := eF' a0 1
      have f3 : a0 (p + 1) = 0 := rfl
      rw [f3] at f2
      by_cases hw : aW A r (p + 1) = 0
      · rw [hw] at f1
        refine ok_t (by rw [hw]; rfl) (ok_some ⟨W, M + Ti * (10 * X), T, U, ?_, ?_, fun j hj => ?_, fun j hj => ?_, h5, ?_, ?_, ?_⟩)
        · rw [up2_slot _ _ (by decide)]; exact h1
        · rw [up2_same, h2, qN_add]
        · rw [up2_cell _ _ _ (by decide), hn, ep]; exact h3 j hj
        · rw [up2_cell _ _ _ (by decide), hn9, hX]; exact h4 j hj
        · rw [hn9, hn]; omega
        · rw [hn9, hn]; omega
        · rw [hn9, hn, hX, ep]; omega
      · have hw1 : aW A r (p + 1) = 1 := by have := aW_le A r (p + 1); omega
        rw [hw1] at f1 ⊢
        refine ok_f (show ¬ nI 1 = nI 0 by decide) (ok_app (ok_some ⟨W + Ti * (10 * X), M + Ti * (10 * X), T, U, ?_, ?_, fun j hj => ?_, fun j hj => ?_, h5, ?_, ?_, ?_⟩))
        · rw [up2_same, up2_slot _ _ (by decide), h1, qN_add]
        · rw [up2_slot _ _ (by decide), up2_same, h2, qN_add]
        · rw [up2_cell _ _ _ (by decide), up2_cell _ _ _ (by decide), hn, ep]; exact h3 j hj
        · rw [up2_cell _ _ _ (by decide), up2_cell _ _ _ (by decide), hn9, hX]; exact h4 j hj
        · rw [hn9, hn]; omega
        · rw [hn9, hn]; omega
        · rw [hn9, hn, hX, ep]; omega
  · right
    obtain rfl : t = 10 := by omega
    exact ok_t (by decide) (ok_some ⟨_, rfl, hI⟩)
/-- between rows -/
def RI (A : Pg) (k v r CW CM row : Nat) (τ : Sl) : Prop := ∃ (W M : Nat) (T : Nat → Nat), τ 27 0 = qN W ∧ τ 27 1 = qN M ∧ (∀ j, j < 80 → τ 28 j = qN (T j * 10 ^ (10 - row))) ∧ (∀ c, c < 8 → T (10 * c) = 0) ∧
  W + rm (FV (gOf A) k v (aW A r) 0 (10 - row) row) T 0 = CW ∧
  M + rm (FV (gOf A) k v a0 1 (10 - row) row) T 0 = CM ∧
  rm (fun _ => 10 ^ (10 - row)) T 0 ≤ 10 ^ 10
theorem x_row {A : Pg} {σ : Sg} {kd v r CW CM row : Nat} {τ : Sl} (hX : RX 1 A σ) (hW : WFs A) (hk : kd < 4) (hv : v ≤ 10) (hr4 : r < 4) (hr : row < 10) (s10 : Int32 × Sl) (h10 : s10.1 = nI row) (h : OI A kd v r CW CM row 0 τ) :
    Ok (wh (b_X3_follow_82 1 (nI v) (nI r) σ (nI kd) s10) 4096 ((0 : Int32), τ)) (fun e => OI A kd v r CW CM row 80 e.2) := by
  have w1 := hW.1
  refine wh_0 (P := fun t (e : Int32 × Sl) => e.1 = nI t ∧ OI A kd v r CW CM row (10 * t) e.2) 8 (by omega) ⟨rfl, h⟩ ?_
  rintro t ⟨x, u⟩ ht ⟨e1, hI⟩
  dsimp at e1 hI
  subst e1
  unfold b_X3_follow_82
  dsimp +instances only
  rw [h10]
  by_cases hlt : t < 8
  · left
    refine ⟨hlt, ok_f (show ¬ nI 8 ≤ nI t from nnle (by omega) (by omega)) ?_⟩
    rw [show (10 : Int32) = nI 10 from rfl, pk_mul, nI_add]
    refine ok_be (x_standing (by omega)) ?_
    rw [hX.2.2.2.2.2.2.2.2 _ (by omega)]
    refine ok_bind (Q := OI A kd v r CW CM row (10 * (t + 1))) ?_ (fun y hy => ok_some ⟨_, rfl, nI_1 _, hy⟩)
    have hl : gOf A (10 * row + t) < A 38 + 2 := gOf_lt
    by_cases g1 : gOf A (10 * row + t) = 1
    · rw [g1]
      refine ok_t ((xPeg (x := gI 1) hX.1 (by omega)).2 (fun q => by rw [vin_iff] at q; exact absurd q.1 (by decide))) (ok_t (by decide) (ok_some (OI_slug hr hlt g1 hI)))
    · by_cases g0 : gOf A (10 * row + t) = 0
      · rw [g0]
        refine ok_t (show f_X7_isPeg 1 (gI 0) σ = 0 from x_isPeg1) (ok_f (by decide) ?_)
        exact ok_bind (x_goOn hr hlt g0 hI) (fun y hy => ok_some hy)
      · obtain ⟨p, hp⟩ : ∃ p, gOf A (10 * row + t) = p + 2 := ⟨gOf A (10 * row + t) - 2, by omega⟩
        have eg : gI (gOf A (10 * row + t)) = nI p := by unfold gI; rw [if_neg g0, if_neg g1, hp]; rfl
        rw [eg]
        refine ok_f (by rw [x_isPeg hX.1 (by omega) (by omega)]; decide) (ok_in (vp_in_nI (by omega) (by omega)) (ok_app ?_))
        rw [nI_clamp (by omega), show σ (1 + 2) p = nI (A (7 + p)) from (hX.2.2.2.2.1 p (by omega)).2]
        have hrag := (hW.2.2.2.2.1 p (by omega)).2
        have ea : (if nI (A (7 + p)) = nI r then (1 : Int32) else 0) = nI (aW A r (p + 1)) := by
          unfold aW
          rw [Nat.add_sub_cancel]
          by_cases z : A (7 + p) = r
          · rw [if_pos (by rw [z]), if_pos ⟨by omega, z⟩]; rfl
          · rw [if_neg (fun q => z ((nI_eq (by omega) (by omega)).mp q)), if_neg (fun q => z q.2)]; rfl
        rw [ea]
        exact ok_bind (x_meet hk hv hr hlt hp hI) (fun y hy => ok_some hy)
  · right
    obtain rfl : t = 8 := by omega
    exact ok_t (by decide) (ok_some ⟨_, rfl, hI⟩)
theorem x_rows {A : Pg} {σ : Sg} {kd v r CW CM : Nat} {τ : Sl} (hX : RX 1 A σ) (hW : WFs A) (hk : kd < 4) (hv : v ≤ 10) (hr4 : r < 4) (h : RI A kd v r CW CM 0 τ) :
    Ok (wh (b_X3_follow_64 1 (nI v) (nI r) σ (nI kd)) 4096 ((0 : Int32), τ)) (fun e => e.2 27 0 = qN CW ∧ e.2 27 1 = qN CM) := by
  refine wh_0 (P := fun t (e : Int32 × Sl) => e.1 = nI t ∧ RI A kd v r CW CM t e.2) 10 (by omega) ⟨rfl, h⟩ ?_
  rintro t ⟨x, u⟩ ht ⟨e1, hI⟩
  dsimp at e1 hI
  subst e1
  unfold b_X3_follow_64
  dsimp +instances only
  by_cases hlt : t < 10
  · left
    refine ⟨hlt, ok_f (show ¬ nI 10 ≤ nI t from nnle (by omega) (by omega)) (ok_app ?_)⟩
    have hO : OI A kd v r CW CM t 0 (upR u 29 (fillR (u 29) 80 (0 : Int64))) := by
      obtain ⟨W, M, T, h1, h2, h3, h5, h6, h7, h8⟩ := hI
      refine ⟨W, M, T, fun _ => 0, by rw [upR_ne _ _ (by decide)]; exact h1, by rw [upR_ne _ _ (by decide)]; exact h2, fun j hj => by rw [upR_ne _ _ (by decide)]; exact h3 j hj, fun j hj => ?_, fun c hc => ⟨h5 c hc, rfl⟩, by rw [rm_zero]; exact h6, by rw [rm_zero]; exact h7, by rw [rm_zero]; omega⟩
      rw [upR_same]
      unfold fillR
      rw [if_pos hj, Nat.zero_mul]
      rfl
    refine ok_bind (x_row hX hW hk hv hr4 hlt (nI t, u) rfl hO) (fun e he => ok_some ⟨_, rfl, nI_1 _, ?_⟩)
    obtain ⟨W, M, T, U, h1, h2, h3, h4, h5, h6, h7, h8⟩ := he
    rw [rm_end, Nat.add_zero] at h6 h7 h8
    have e9 : 10 - (t + 1) = 9 - t := by omega
    show RI A kd v r CW CM (t + 1) (upR e.2 28 (va_cpy (e.2 29) (e.2 28) 0 0 80))
    refine ⟨W, M, U, by rw [upR_ne _ _ (by decide)]; exact h1, by rw [upR_ne _ _ (by decide)]; exact h2, fun j hj => ?_, fun c hc => (h5 c hc).2, by rw [e9]; exact h6, by rw [e9]; exact h7, by rw [e9]; exact h8⟩
    rw [upR_same, e9]
    unfold va_cpy
    rw [if_pos (by omega), Nat.zero_add, Nat.sub_zero]
    exact h4 j hj
  · right
    obtain rfl : t = 10 := by omega
    refine ok_t (by decide) (ok_some ⟨_, rfl, ?_⟩)
    obtain ⟨W, M, T, h1, h2, h3, h5, h6, h7, h8⟩ := hI
    have ez : ∀ a y, rm (FV (gOf A) kd v a y (10 - 10) 10) T 0 = 0 := fun a y => by
      rw [rm_skip 80 0 (by omega) (fun j _ _ => by
        have e : FV (gOf A) kd v a y (10 - 10) 10 j = 0 := rfl
        rw [e, Nat.mul_zero])]
      rfl
    rw [ez, Nat.add_zero] at h6 h7
    rw [← h6, ← h7]
    exact ⟨h1, h2⟩
theorem x_odds {A : Pg} {σ : Sg} {h v r c : Nat} {τ : Sl} (hX : RX 1 A σ) (hW : WFs A) (hh : h < A 41) (hv : v ≤ 10) (hr4 : r < 4) (hc : c < 8) :
    Ok (f_X3_follow 1 (nI v) (nI h) (nI c) (nI r) σ τ) (fun τ' => τ' 27 0 = qN (EE (gOf A) (A (18 + h)) v (aW A r) 0 10 0 c (A (22 + h))) ∧ τ' 27 1 = qN (EE (gOf A) (A (18 + h)) v a0 1 10 0 c (A (22 + h)))) := by
  have w4 := hW.2.2.2.1
  have w7 := hW.2.2.2.2.2.2.1 h hh
  have hog := hX.2.2.2.2.2.2.1 h hh
  unfold f_X3_follow
  refine ok_app (ok_app ?_)
  refine ok_f (by rw [(xHog hX.2.2.1 (by omega)).1 (vp_in_nI hh (by omega))]; decide) (ok_f (by rw [xCol.1 (vp_in_nI hc (by omega))]; decide) (ok_in (vp_in_nI (by omega) (by omega)) (ok_app (ok_in (vp_in_nI (by omega) (by omega)) (ok_app ?_)))))
  rw [nI_clamp (by omega), show σ (1 + 4) h = nI (A (18 + h)) from hog.1, show σ (1 + 5) h = nI (A (22 + h)) from hog.2, show (10000000000 : Int64) = qN 10000000000 from rfl, x_add (Or.inl rfl) hc (by omega), Option.bind_some]
  refine ok_bind (x_rows (r := r) (v := v) (CW := EE (gOf A) (A (18 + h)) v (aW A r) 0 10 0 c (A (22 + h))) (CM := EE (gOf A) (A (18 + h)) v a0 1 10 0 c (A (22 + h))) hX hW w7.1 hv hr4 ?_) (fun e he => ok_some he)
  have hi : 10 * c + A (22 + h) < 80 := by omega
  have hd : (10 * c + A (22 + h)) / 10 = c := by omega
  have hm : (10 * c + A (22 + h)) % 10 = A (22 + h) := by omega
  refine ⟨0, 0, ut (fun _ => 0) (10 * c + A (22 + h)) 1, ?_, ?_, fun j hj => ?_, fun c' hc' => ?_, ?_, ?_, ?_⟩
  · rw [up2_cell _ _ _ (by decide), upR_ne _ _ (by decide), up2_slot _ _ (by decide), up2_same]; rfl
  · rw [up2_cell _ _ _ (by decide), upR_ne _ _ (by decide), up2_same]; rfl
  · have ef : ∀ j, j < 80 → upR (up2 (up2 τ 27 0 (0 : Int64)) 27 1 (0 : Int64)) 28 (fillR (up2 (up2 τ 27 0 (0 : Int64)) 27 1 (0 : Int64) 28) 80 (0 : Int64)) 28 j = 0 := fun j hj => by
      rw [upR_same]
      unfold fillR
      rw [if_pos hj]
    unfold ut
    by_cases e : j = 10 * c + A (22 + h)
    · subst e
      rw [up2_same, ef _ hj, if_pos rfl]
      rw [show (0 : Int64) = qN 0 from rfl, qN_add]
      show qN (0 + 10000000000) = qN ((0 + 1) * 10 ^ (10 - 0))
      rw [show (0 + 10000000000 : Nat) = (0 + 1) * 10 ^ (10 - 0) by decide]
    · rw [up2_slot _ _ e, ef _ hj, if_neg e, Nat.zero_mul]
      rfl
  · unfold ut
    rw [if_neg (by omega)]
  · rw [rm_ut hi, rm_zero]
    unfold FV
    rw [hd, hm, Nat.one_mul, Nat.sub_zero, Nat.zero_add, Nat.zero_add]
  · rw [rm_ut hi, rm_zero]
    unfold FV
    rw [hd, hm, Nat.one_mul, Nat.sub_zero, Nat.zero_add, Nat.zero_add]
  · rw [rm_ut hi, rm_zero]
    omega
