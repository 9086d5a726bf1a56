/-! PURE PART: what the functions answer -/
def Ok {X : Type} (t : Option X) (P : X → Prop) : Prop := ∃ y, t = some y ∧ P y
theorem ok_some {X : Type} {x : X} {P : X → Prop} (h : P x) : Ok (some x) P := ⟨x, rfl, h⟩
theorem ok_eq {X : Type} {t : Option X} {x : X} {P : X → Prop} (e : t = some x) (h : P x) : Ok t P := ⟨x, e, h⟩
theorem ok_bind {X Y : Type} {g : Option Y} {k : Y → Option X} {P : X → Prop} {Q : Y → Prop} (h : Ok g Q) (hk : ∀ y, Q y → Ok (k y) P) : Ok (g.bind k) P := by
  obtain ⟨y, e, q⟩ := h
  rw [e]
  exact hk y q
theorem ok_bs {X Y : Type} {y : Y} {k : Y → Option X} {P : X → Prop} (hk : Ok (k y) P) : Ok ((some y).bind k) P := hk
theorem ok_be {X Y : Type} {g : Option Y} {y : Y} {k : Y → Option X} {P : X → Prop} (e : g = some y) (hk : Ok (k y) P) : Ok (g.bind k) P := by
  rw [e]
  exact hk
theorem ok_app {X J : Type} {v : J} {k : J → Option X} {P : X → Prop} (h : Ok (k v) P) : Ok (app v k) P := h
theorem ok_t {X : Type} {c : Prop} [d : Decidable c] {t e : Option X} {P : X → Prop} (hc : c) (h : Ok t P) : Ok (if c then t else e) P := by rw [if_pos hc]; exact h
theorem ok_f {X : Type} {c : Prop} [d : Decidable c] {t e : Option X} {P : X → Prop} (hc : ¬ c) (h : Ok e P) : Ok (if c then t else e) P := by rw [if_neg hc]; exact h
theorem ok_if {X : Type} {c : Prop} [d : Decidable c] {t e : Option X} {P : X → Prop} (h1 : c → Ok t P) (h2 : ¬ c → Ok e P) : Ok (if c then t else e) P := by
  by_cases hc : c
  · exact ok_t hc (h1 hc)
  · exact ok_f hc (h2 hc)
theorem ok_in {X : Type} {i : Int32} {n : Nat} {t : Option X} {P : X → Prop} (hi : vp_in i n) (h : Ok t P) : Ok (if inR i n then t else none) P := ok_t (inR_of hi) h
theorem ok_mono {X : Type} {t : Option X} {P Q : X → Prop} (h : Ok t P) (hq : ∀ y, P y → Q y) : Ok t Q := by
  obtain ⟨y, e, p⟩ := h
  exact ⟨y, e, hq y p⟩
/-- a loop with a counter and an invariant; it may end at any time -/
theorem wh_ok {S R : Type} {f : S → Option (S ⊕ R)} {P : Nat → S → Prop} {Q : R → Prop} (m : Nat) (hs : ∀ k s, k ≤ m → P k s → (k < m ∧ Ok (f s) (fun y => ∃ s', y = .inl s' ∧ P (k + 1) s')) ∨ Ok (f s) (fun y => ∃ r, y = .inr r ∧ Q r)) : ∀ (d k : Nat) (s : S) (N : Nat), k ≤ m → m - k = d → m - k < N → P k s → Ok (wh f N s) Q := by
  intro d
  induction d with
  | zero =>
    intro k s N h1 h2 h3 hp
    obtain ⟨N, rfl⟩ : ∃ n, N = n + 1 := ⟨N - 1, by omega⟩
    rcases hs k s h1 hp with ⟨h4, -⟩ | ⟨y, e, r, rfl, q⟩
    · omega
    · refine ⟨r, ?_, q⟩
      unfold wh
      rw [e]
  | succ d ih =>
    intro k s N h1 h2 h3 hp
    obtain ⟨N, rfl⟩ : ∃ n, N = n + 1 := ⟨N - 1, by omega⟩
    rcases hs k s h1 hp with ⟨h4, y, e, s', rfl, q⟩ | ⟨y, e, r, rfl, q⟩
    · obtain ⟨r, e2, q2⟩ := ih (k + 1) s' N h4 (by omega) (by omega) q
      refine ⟨r, ?_, q2⟩
      unfold wh
      rw [e]
      exact e2
    · refine ⟨r, ?_, q⟩
      unfold wh
      rw [e]
theorem wh_0 {S R : Type} {f : S → Option (S ⊕ R)} {P : Nat → S → Prop} {Q : R → Prop} (m : Nat) {s : S} {N : Nat} (hN : m < N) (h0 : P 0 s) (hs : ∀ k s, k ≤ m → P k s → (k < m ∧ Ok (f s) (fun y => ∃ s', y = .inl s' ∧ P (k + 1) s')) ∨ Ok (f s) (fun y => ∃ r, y = .inr r ∧ Q r)) : Ok (wh f N s) Q := wh_ok m hs m 0 s N (Nat.zero_le _) rfl (by omega) h0
theorem in_l {S R : Type} {P : S → Prop} {s : S} (h : P s) : ∃ s' : S, (Sum.inl s : S ⊕ R) = .inl s' ∧ P s' := ⟨s, rfl, h⟩
theorem in_r {S R : Type} {P : R → Prop} {s : R} (h : P s) : ∃ s' : R, (Sum.inr s : S ⊕ R) = .inr s' ∧ P s' := ⟨s, rfl, h⟩
-- numbers
theorem nlt {n : Nat} (h : n < 2 ^ 31) : ¬ nI n < 0 := nI_pos h
theorem npos {n : Nat} (h : n < 2 ^ 31) : (0 : Int32) ≤ nI n := nI_pos' h
theorem nle {a b : Nat} (h : a ≤ b) (hb : b < 2 ^ 31) : nI a ≤ nI b := nI_le h hb
theorem nnle {a b : Nat} (h : a < b) (hb : b < 2 ^ 31) : ¬ nI b ≤ nI a := nI_ge h hb
theorem nne {a b : Nat} (h : a ≠ b) (ha : a < 2 ^ 31) (hb : b < 2 ^ 31) : ¬ nI a = nI b := fun e => h ((nI_eq ha hb).mp e)
theorem nneg1 {n : Nat} (h : n < 2 ^ 31) : ¬ nI n = -1 := fun e => by
  have := nI_toInt h
  rw [e] at this
  have h2 : (-1 : Int32).toInt = -1 := by decide
  omega
theorem nneg2 {n : Nat} (h : n < 2 ^ 31) : ¬ nI n = -2 := fun e => by
  have := nI_toInt h
  rw [e] at this
  have h2 : (-2 : Int32).toInt = -2 := by decide
  omega
theorem nneg4 {n : Nat} (h : n < 2 ^ 31) : ¬ nI n = -4 := fun e => by
  have := nI_toInt h
  rw [e] at this
  have h2 : (-4 : Int32).toInt = -4 := by decide
  omega
/-- what lies outside of p stays -/
def Fr (p : Nat → Prop) (σ σ' : Sg) : Prop := ∀ c, ¬ p c → σ' c = σ c
theorem Fr.rf {p : Nat → Prop} {σ : Sg} : Fr p σ σ := fun _ _ => rfl
theorem Fr.tr {p : Nat → Prop} {σ σ1 σ2 : Sg} (h1 : Fr p σ σ1) (h2 : Fr p σ1 σ2) : Fr p σ σ2 := fun c hc => (h2 c hc).trans (h1 c hc)
theorem Fr.mono {p q : Nat → Prop} {σ σ1 : Sg} (h : Fr p σ σ1) (hq : ∀ c, p c → q c) : Fr q σ σ1 := fun c hc => h c (fun z => hc (hq c z))
theorem Fr.up {p : Nat → Prop} {σ σ1 : Sg} (h : Fr p σ σ1) {a i : Nat} {x : Int32} (ha : p a) : Fr p σ (up2 σ1 a i x) := fun c hc => by
  rw [up2_cell _ _ _ (fun e => hc (by rw [e]; exact ha))]
  exact h c hc
theorem Fr.row {p : Nat → Prop} {σ σ1 : Sg} (h : Fr p σ σ1) {a : Nat} {r : Nat → Int32} (ha : p a) : Fr p σ (upR σ1 a r) := fun c hc => by
  rw [upR_ne _ _ (fun e => hc (by rw [e]; exact ha))]
  exact h c hc
-- the specification of a run
def lose (k : Nat) : Nat := if k = 1 then 3 else if k = 2 then 1 else if k = 3 then 6 else 2
def turn (k r : Nat) : Int :=
  let pl : Int := if r % 2 = 0 then -1 else 1
  if k = 1 then -pl else if k = 2 then 1 else if k = 3 then -2 * pl else pl
def tcol (k r c : Nat) (o : Bool) : Nat := (max 0 (min 7 ((c : Int) + (if o then - turn k r else turn k r)))).toNat
/-- where a run ends: (1 + the peg on which it rests, or 0; the row; how many pegs it meets; 1 if it opens); g: what lies in a cell: 0 nothing, 1 a slug, 2 + a peg -/
def go (g : Nat → Nat) (k : Nat) (o : Nat → Bool) : Nat → Nat → Nat → Nat → Nat → Nat × Nat × Nat × Nat
  | 0, row, _, _, met => (0, row, met, 0)
  | n + 1, row, c, sp, met =>
    if g (10 * row + c) = 1 then (0, row, met, 1)
    else if g (10 * row + c) = 0 then go g k o n (row + 1) c sp met
    else if sp ≤ lose k then (g (10 * row + c) - 1, row, met + 1, 0)
    else go g k o n (row + 1) (tcol k row c (o row)) (sp - lose k) (met + 1)
/-- in which column it is in row j -/
def pth (g : Nat → Nat) (k : Nat) (o : Nat → Bool) : Nat → Nat → Nat → Nat → Nat → Nat
  | 0, _, c, _, _ => c
  | n + 1, row, c, sp, j =>
    if j ≤ row then c
    else if g (10 * row + c) = 0 then pth g k o n (row + 1) c sp j
    else pth g k o n (row + 1) (tcol k row c (o row)) (sp - lose k) j
theorem tcol_lt (k r c : Nat) (o : Bool) : tcol k r c o < 8 := by
  unfold tcol
  omega
theorem lose_pos (k : Nat) : 0 < lose k := by
  unfold lose
  split <;> (try omega)
  split <;> (try omega)
  split <;> omega
def no (_ : Nat) : Bool := false
def gI (v : Nat) : Int32 := if v = 0 then -1 else if v = 1 then -2 else nI (v - 2)
/-- what a run's peg is, as the class and the reference tell it -/
def rI (v : Nat) : Int32 := if v = 0 then -4 else nI (v - 1)
theorem xloss : ∀ k, k < 4 → f_X1_loss (nI k) = nI (lose k) := by decide +kernel
theorem xturn : ∀ k, k < 4 → ∀ r, r < 10 → ∀ c, c < 8 → f_X1_columnBeside (nI c) (f_X1_turn (nI k) (nI r)) = nI (tcol k r c false) := by decide +kernel
theorem mloses : ∀ k, k < 4 → f_X10_losesOf (nI k) = nI (lose k) := by decide +kernel
theorem sp_sub : ∀ s, s < 10 → ∀ k, k < 4 → (lose k < s → nI s - nI (lose k) = nI (s - lose k)) ∧ (s ≤ lose k → ¬ 0 < nI s - nI (lose k)) := by decide +kernel
