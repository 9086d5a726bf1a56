/-! ask -/
theorem cnt_mono (P : Nat → Bool) : ∀ m n, m ≤ n → cnt P m ≤ cnt P n := by
  intro m n h
  induction n with
  | zero => have : m = 0 := by omega
            rw [this]; exact Nat.le_refl _
  | succ n ih =>
    by_cases e : m = n + 1
    · rw [e]; exact Nat.le_refl _
    · have := ih (by omega)
      rw [cnt_s]
      omega
/-- alike: of the speeds below n those that end as G tells j -/
def al (P : Nat → Bool) (G : Nat → Nat) (j n : Nat) : Nat := cnt (fun b => P b && decide (G b = j)) n
theorem al_s (P : Nat → Bool) (G : Nat → Nat) (j n : Nat) : al P G j (n + 1) = al P G j n + if P n = true ∧ G n = j then 1 else 0 := by
  show cnt _ n + _ = _
  unfold al
  congr 1
  simp
/-- the class's worst: as the counts grow -/
def wx (P : Nat → Bool) (G : Nat → Nat) : Nat → Nat
  | 0 => 0
  | n + 1 => if P n = true then max (wx P G n) (al P G (G n) (n + 1)) else wx P G n
/-- the reference's worst -/
def rx (P : Nat → Bool) (G : Nat → Nat) : Nat → Nat
  | 0 => 0
  | n + 1 => max (rx P G n) (if P n = true then al P G (G n) 10 else 0)
theorem wx_le (P : Nat → Bool) (G : Nat → Nat) : ∀ n, n ≤ 10 → wx P G n ≤ rx P G n := by
  intro n
  induction n with
  | zero => intro _; exact Nat.le_refl _
  | succ n ih =>
    intro h
    have h1 := ih (by omega)
    unfold wx rx
    by_cases hp : P n = true
    · rw [if_pos hp, if_pos hp]
      have : al P G (G n) (n + 1) ≤ al P G (G n) 10 := cnt_mono _ _ _ h
      omega
    · rw [if_neg hp]
      omega
theorem al_wx (P : Nat → Bool) (G : Nat → Nat) (j : Nat) : ∀ n, al P G j n ≤ wx P G n := by
  intro n
  induction n with
  | zero => exact Nat.le_refl _
  | succ n ih =>
    rw [al_s]
    unfold wx
    by_cases hp : P n = true
    · rw [if_pos hp]
      by_cases hj : G n = j
      · rw [if_pos ⟨hp, hj⟩]
        have := al_s P G (G n) n
        rw [if_pos ⟨hp, rfl⟩, hj] at this
        rw [hj]
        omega
      · rw [if_neg (fun z => hj z.2)]
        omega
    · rw [if_neg hp, if_neg (fun z => hp z.1)]
      exact ih
theorem rx_le (P : Nat → Bool) (G : Nat → Nat) : ∀ n, rx P G n ≤ wx P G 10 := by
  intro n
  induction n with
  | zero => exact Nat.zero_le _
  | succ n ih =>
    unfold rx
    have := al_wx P G (G n) 10
    split <;> omega
theorem wx_rx (P : Nat → Bool) (G : Nat → Nat) : wx P G 10 = rx P G 10 := Nat.le_antisymm (wx_le P G 10 (Nat.le_refl _)) (rx_le P G 10)
theorem al_le (P : Nat → Bool) (G : Nat → Nat) (j n : Nat) : al P G j n ≤ n := cnt_le _ _
theorem wx_10 (P : Nat → Bool) (G : Nat → Nat) : ∀ n, wx P G n ≤ n := by
  intro n
  induction n with
  | zero => exact Nat.le_refl _
  | succ n ih =>
    unfold wx
    have := al_le P G (G n) (n + 1)
    split <;> omega
theorem rx_10 (P : Nat → Bool) (G : Nat → Nat) (n : Nat) : rx P G n ≤ 10 := by
  have := rx_le P G n
  have := wx_10 P G 10
  omega
theorem bit_at : ∀ v, v < 10 → ∀ a, a < 1024 → ((nI a >>> (nI v &&& 31)) &&& (1 : Int32) = 1 ↔ a.testBit v = true) := by decide +kernel
theorem bm_bit (P : Nat → Bool) : ∀ n v, v < n → (bm P n).testBit v = P v := by
  intro n
  induction n with
  | zero => intro v h; omega
  | succ n ih =>
    intro v h
    unfold bm
    have hl := bm_lt P n
    by_cases e : v = n
    · subst e
      by_cases hp : P v = true
      · rw [if_pos hp, Nat.add_comm, Nat.testBit_two_pow_add_eq, Nat.testBit_lt_two_pow hl, hp]
        rfl
      · rw [if_neg hp, Nat.add_zero, Nat.testBit_lt_two_pow hl]
        simpa using hp
    · by_cases hp : P n = true
      · rw [if_pos hp, Nat.add_comm, Nat.testBit_two_pow_add_gt (by omega), ih v (by omega)]
      · rw [if_neg hp, Nat.add_zero, ih v (by omega)]
theorem bm_at {P : Nat → Bool} {v : Nat} (h : v < 10) : ((nI (bm P 10) >>> (nI v &&& 31)) &&& (1 : Int32) = 1 ↔ P v = true) := by
  rw [bit_at v h _ (bm_1024 P (Nat.le_refl _)), bm_bit P 10 v h]
/-- the bucket of an end -/
def bk (f : Nat) : Nat := if f = 0 then 7 else f - 1
theorem bk_eq {x y : Nat} (hx : x ≤ 7) (hy : y ≤ 7) : bk x = bk y ↔ x = y := by
  unfold bk
  split <;> split <;> omega
def aG (A : Pg) (k c v : Nat) : Nat := bk (go (gOf A) k no 10 0 c v 0).1
theorem aG_lt {A : Pg} (h7 : A 38 ≤ 7) (k c v : Nat) : aG A k c v < 8 := by
  have := go_lt (k := k) (o := no) (gOf_lt2 (A := A)) 10 0 c v 0
  unfold aG bk
  split <;> omega
theorem rI_inj {x y : Nat} (hx : x < 2 ^ 30) (hy : y < 2 ^ 30) : rI x = rI y ↔ x = y := by
  constructor
  · intro h
    rcases y with _ | y
    · exact (rI_none (by omega)).mp h
    · exact (rI_eq (by omega) (by omega)).mp h
  · intro h; rw [h]
theorem n91 {j : Nat} (h : j ≤ 9) : ¬ (9 : Int32) < nI j := n9 h
theorem iMax_nn {a b : Nat} (ha : a < 2 ^ 31) (hb : b < 2 ^ 31) : iMax (nI a) (nI b) = nI (max a b) := by
  unfold iMax
  by_cases z : a < b
  · rw [if_pos (nI_lt z hb), show max a b = b by omega]
  · rw [if_neg (fun q => z (by
      rw [Int32.lt_iff_toInt_lt, nI_toInt ha, nI_toInt hb] at q
      omega)), show max a b = a by omega]
theorem x_worst {A : Pg} {P : Nat → Bool} {s : Sg} {k c : Nat} (hX : RX 13 A s) (hW : WFs A) (hk : k < 4) (hc : c < 8) (hP : P 0 = false) : Ok (f_X0_leftAtWorst (nI k) (nI (bm P 10)) (nI c) s) (fun y => y.1 = nI (wx P (aG A k c) 10) ∧ Fr (fun q => q = 26 ∨ crt 13 q) s y.2) := by
  have w1 := hW.1
  unfold f_X0_leftAtWorst
  refine ok_app ?_
  refine ok_bind (Q := fun e => e.1 = nI (wx P (aG A k c) 10) ∧ Fr (fun q => q = 26 ∨ crt 13 q) s e.2.2) ?_ (fun e he => ok_some he)
  refine wh_0 (P := fun t (e : Int32 × Int32 × Sg) => e.1 = nI (wx P (aG A k c) (1 + t)) ∧ e.2.1 = nI (1 + t) ∧ Fr (fun q => q = 26 ∨ crt 13 q) s e.2.2 ∧ ∀ j, j < 8 → e.2.2 26 j = nI (al P (aG A k c) j (1 + t))) 9 (by omega) ⟨?_, rfl, Fr.rf.row (Or.inl rfl), fun j hj => ?_⟩ ?_
  · have : wx P (aG A k c) (1 + 0) = 0 := by
      show wx P _ (0 + 1) = 0
      unfold wx
      rw [if_neg (by rw [hP]; decide)]
      rfl
    rw [this]; rfl
  · have : al P (aG A k c) j (1 + 0) = 0 := by
      show al P _ j (0 + 1) = 0
      rw [al_s, if_neg (by rw [hP]; simp)]
      rfl
    rw [this]
    dsimp only
    rw [upR_same]
    unfold fillR
    rw [if_pos hj]
    rfl
  rintro t ⟨m, x, u⟩ ht ⟨e1, e2, hF, hb⟩
  dsimp at e1 e2 hF hb
  subst e1 e2
  unfold b_X0_leftAtWorst_14
  dsimp +instances only
  by_cases hlt : t < 9
  · left
    refine ⟨hlt, ok_f (n9 (by omega)) ?_⟩
    have hs1 : wx P (aG A k c) (1 + (t + 1)) = if P (1 + t) = true then max (wx P (aG A k c) (1 + t)) (al P (aG A k c) (aG A k c (1 + t)) (1 + t + 1)) else wx P (aG A k c) (1 + t) := rfl
    have hs2 : ∀ j, al P (aG A k c) j (1 + (t + 1)) = al P (aG A k c) j (1 + t) + if P (1 + t) = true ∧ aG A k c (1 + t) = j then 1 else 0 := fun j => al_s P (aG A k c) j (1 + t)
    refine ok_bind (Q := fun j => j.1 = nI (wx P (aG A k c) (1 + (t + 1))) ∧ Fr (fun q => q = 26 ∨ crt 13 q) s j.2 ∧ ∀ i, i < 8 → j.2 26 i = nI (al P (aG A k c) i (1 + (t + 1)))) ?_ (fun j hj => ok_some ⟨_, rfl, hj.1, nI_1 _, hj.2⟩)
    by_cases hp : P (1 + t) = true
    · refine ok_t ((bm_at (by omega)).mpr hp) ?_
      have hX2 : RX 13 A u := hX.fr hF (fun k hk => by unfold crt; omega)
      refine ok_bind (x_letGoAs' hX2.g w1 gOf_lt2 hk (by omega) hc) (fun y hy => ?_)
      obtain ⟨f1, f2, -⟩ := hy
      have f2' : y 23 0 = rI (go (gOf A) k no 10 0 c (1 + t) 0).1 := f2
      have hl := go_lt (k := k) (o := no) (gOf_lt2 (A := A)) 10 0 c (1 + t) 0
      have hXy : RX 13 A y := (hX2.g.cr f1).rx
      have ej : (if f_X7_isPeg 13 (y 23 0) y = 0 then (7 : Int32) else y 23 0) = nI (aG A k c (1 + t)) := by
        rw [f2']
        unfold aG bk rI
        by_cases z : (go (gOf A) k no 10 0 c (1 + t) 0).1 = 0
        · rw [if_pos z, if_pos z, (xPeg (x := -4) hXy.1 (by omega)).2 (fun q => by rw [vin_iff] at q; exact absurd q.1 (by decide)), if_pos rfl]
          rfl
        · rw [if_neg z, if_neg z, (xPeg (x := nI ((go (gOf A) k no 10 0 c (1 + t) 0).1 - 1)) hXy.1 (by omega)).1 (vp_in_nI (by omega) (by omega)), if_neg z10]
      refine ok_app ?_
      rw [ej]
      have hlt8 := aG_lt w1 k c (1 + t)
      generalize hG : aG A k c (1 + t) = G at hlt8 hs1 hs2
      have i8 : inR (nI G) 8 = true := inR_of (vp_in_nI hlt8 (by omega))
      have y26 : ∀ j, j < 8 → y 26 j = nI (al P (aG A k c) j (1 + t)) := fun j hj => by
        rw [f1 26 (by unfold crt; omega)]; exact hb j hj
      refine ok_t i8 (ok_t i8 (ok_app (ok_t i8 (ok_app (ok_some ⟨?_, ?_, fun i hi => ?_⟩)))))
      · dsimp only
        rw [nI_clamp (by omega), y26 _ hlt8, up2_same, nI_1, hs1, if_pos hp, al_s, hG, if_pos ⟨hp, rfl⟩]
        have q1 := wx_10 P (aG A k c) (1 + t)
        have q2 := al_le P (aG A k c) G (1 + t)
        exact iMax_nn (by omega) (by omega)
      · exact (hF.tr (f1.mono (fun q hq => Or.inr hq))).up (Or.inl rfl)
      · dsimp only
        rw [nI_clamp (by omega), y26 _ hlt8, hs2]
        by_cases e : i = G
        · subst e
          rw [up2_same, nI_1, if_pos ⟨hp, rfl⟩]
        · rw [up2_slot _ _ e, y26 i hi, if_neg (fun z => e z.2.symm), Nat.add_zero]
    · refine ok_f (fun z => hp ((bm_at (by omega)).mp z)) (ok_some ⟨?_, hF, fun i hi => ?_⟩)
      · rw [hs1, if_neg hp]
      · rw [hs2, if_neg (fun z => hp z.1), Nat.add_zero]; exact hb i hi
  · right
    obtain rfl : t = 9 := by omega
    exact ok_t (by decide) (ok_some ⟨_, rfl, rfl, hF⟩)
theorem x_quest {A : Pg} {P : Nat → Bool} {s : Sg} {k : Nat} (hX : RX 13 A s) (hW : WFs A) (hk : k < 4) (hP : P 0 = false) : Ok (f_X0_seekQuestion (nI k) (nI (bm P 10)) s) (fun y => Same s y ∧ y 25 2 = rI (fo (fun _ => true) (fun c => wx P (aG A k c) 10) (cnt P 10) 8).1 ∧ y 25 3 = nI (fo (fun _ => true) (fun c => wx P (aG A k c) 10) (cnt P 10) 8).2) := by
  have hc10 := cnt_le P 10
  unfold f_X0_seekQuestion
  refine ok_app ?_
  rw [x_bc _ (bm_1024 P (Nat.le_refl _)), pop_bm P 10 (Nat.le_refl _)]
  generalize hV : (fun c => wx P (aG A k c) 10) = V
  have hV' : ∀ c, wx P (aG A k c) 10 = V c := fun c => by rw [← hV]
  refine ok_bind (Q := fun e => Same s e.2 ∧ e.2 25 2 = rI (fo (fun _ => true) V (cnt P 10) 8).1 ∧ e.2 25 3 = nI (fo (fun _ => true) V (cnt P 10) 8).2) ?_ (fun e he => ok_some he)
  refine wh_0 (P := fun t (e : Int32 × Sg) => e.1 = nI t ∧ Same s e.2 ∧ RX 13 A e.2 ∧ e.2 25 2 = rI (fo (fun _ => true) V (cnt P 10) t).1 ∧ e.2 25 3 = nI (fo (fun _ => true) V (cnt P 10) t).2) 8 (by omega) ?_ ?_
  · unfold f_X0_seekFrom
    simp only [app]
    have hF : Fr (fun q => q = 25) s (up2 (up2 s 25 2 (-4)) 25 3 (nI (cnt P 10))) := up25
    exact ⟨rfl, Same.fr hF (fun c hc => by unfold scX; omega), hX.fr hF (fun k hk => by omega), by simp [up2]; rfl, by simp [up2]; rfl⟩
  rintro t ⟨x, u⟩ ht ⟨e1, hs, hXu, h2, h3⟩
  dsimp at e1 hs hXu h2 h3
  subst e1
  unfold b_X0_seekQuestion_10
  dsimp +instances only
  by_cases hlt : t < 8
  · left
    refine ⟨hlt, ok_f (show ¬ nI 8 ≤ nI t from nnle hlt (by omega)) ?_⟩
    refine ok_bind (x_worst (P := P) hXu hW hk hlt hP) (fun y hy => ?_)
    obtain ⟨q1, q2⟩ := hy
    have hf := fo_le (e := fun _ => true) (v := V) (n0 := cnt P 10) t
    have hw := wx_10 P (aG A k t) 10
    rw [hV'] at q1 hw
    have y25 : y.2 25 = u 25 := q2 25 (by unfold crt; omega)
    obtain ⟨o1, o2, o3⟩ := x_offerF (s := y.2) (p := fo (fun _ => true) V (cnt P 10) t) (c := t) (v := V t) (by rw [y25]; exact h2) (by rw [y25]; exact h3) (by omega) (by omega)
    have hs' : fo (fun _ => true) V (cnt P 10) (t + 1) = sf (fo (fun _ => true) V (cnt P 10) t) t (V t) := rfl
    rw [q1]
    refine ok_some ⟨_, rfl, nI_1 _, ?_, ?_, ?_, ?_⟩
    · exact (hs.tr (Same.fr q2 (fun c hc => by unfold crt at hc; unfold scX; omega))).tr (Same.fr o3 (fun c hc => by unfold scX; omega))
    · exact (hXu.fr q2 (fun k hk => by unfold crt; omega)).fr o3 (fun k hk => by omega)
    · rw [hs']; exact o1
    · rw [hs']; exact o2
  · right
    obtain rfl : t = 8 := by omega
    exact ok_t (by decide) (ok_some ⟨_, rfl, hs, h2, h3⟩)
theorem m_alike {A : Pg} {P : Nat → Bool} {s : Sg} {i c a : Nat} (h7 : A 38 ≤ 7) (hT : T83 A i 10 s) (hc : c < 8) (ha1 : 1 ≤ a) (ha : a < 10) (hP : P 0 = false) (s5 : Int32 × Int32 × Int32) (h5 : s5.2.2 = nI c) (s7 : Int32 × Int32) (hs7 : s7.2 = nI a) :
    Ok (wh (b_X10_ask_65 (nI (bm P 10), s) s5 s7) 4096 ((0 : Int32), (1 : Int32))) (fun e => e.1 = nI (if P a = true then al P (aG A (A (18 + i)) c) (aG A (A (18 + i)) c a) 10 else 0)) := by
  by_cases hp : P a = true
  · rw [if_pos hp]
    refine wh_0 (P := fun t (e : Int32 × Int32) => e.1 = nI (al P (aG A (A (18 + i)) c) (aG A (A (18 + i)) c a) (1 + t)) ∧ e.2 = nI (1 + t)) 9 (by omega) ⟨?_, rfl⟩ ?_
    · have : al P (aG A (A (18 + i)) c) (aG A (A (18 + i)) c a) (1 + 0) = 0 := by
        show al P _ _ (0 + 1) = 0
        rw [al_s, if_neg (by rw [hP]; simp)]
        rfl
      rw [this]; rfl
    rintro t ⟨m, x⟩ ht ⟨e1, e2⟩
    dsimp at e1 e2
    subst e1 e2
    unfold b_X10_ask_65
    dsimp +instances only
    rw [h5, hs7]
    by_cases hlt : t < 9
    · left
      refine ⟨hlt, ok_f (n9 (by omega)) (ok_t ((bm_at ha).mpr hp) ?_)⟩
      have hs2 := al_s P (aG A (A (18 + i)) c) (aG A (A (18 + i)) c a) (1 + t)
      refine ok_bind (Q := fun j => j = nI (if P (1 + t) = true ∧ aG A (A (18 + i)) c (1 + t) = aG A (A (18 + i)) c a then 1 else 0)) ?_ (fun j hj => ok_some ⟨_, rfl, by dsimp only; rw [hj, nI_add]; exact congrArg nI hs2.symm, nI_1 _⟩)
      by_cases hq : P (1 + t) = true
      · refine ok_t ((bm_at (by omega)).mpr hq) ?_
        rw [show (8 : Int32) = nI 8 from rfl, pk_mul, pk_mul, nI_add, nI_add]
        refine ok_in (vp_in_nI (by omega) (by omega)) (ok_in (vp_in_nI (by omega) (by omega)) ?_)
        rw [nI_clamp (by omega), nI_clamp (by omega), hT a ha1 ha c hc, hT (1 + t) (by omega) (by omega) c hc]
        have l1 := go_lt (k := A (18 + i)) (o := no) (gOf_lt2 (A := A)) 10 0 c a 0
        have l2 := go_lt (k := A (18 + i)) (o := no) (gOf_lt2 (A := A)) 10 0 c (1 + t) 0
        have key : (rI (go (gOf A) (A (18 + i)) no 10 0 c a 0).1 = rI (go (gOf A) (A (18 + i)) no 10 0 c (1 + t) 0).1) ↔ aG A (A (18 + i)) c (1 + t) = aG A (A (18 + i)) c a := by
          unfold aG
          rw [bk_eq (by omega) (by omega)]
          constructor
          · intro q
            rw [rI_inj (by omega) (by omega)] at q
            exact q.symm
          · intro q; rw [q]
        by_cases z : aG A (A (18 + i)) c (1 + t) = aG A (A (18 + i)) c a
        · rw [if_pos (key.mpr z), if_pos ⟨hq, z⟩]
          exact ok_some rfl
        · rw [if_neg (fun q => z (key.mp q)), if_neg (fun q => z q.2)]
          exact ok_some rfl
      · refine ok_f (fun z => hq ((bm_at (by omega)).mp z)) ?_
        rw [if_neg (fun z => hq z.1)]
        exact ok_some rfl
    · right
      obtain rfl : t = 9 := by omega
      exact ok_t (by decide) (ok_some ⟨_, rfl, rfl⟩)
  · rw [if_neg hp]
    refine ok_eq (x := (0, 1)) ?_ rfl
    unfold wh b_X10_ask_65
    dsimp +instances only
    rw [hs7, if_neg (by decide), if_neg (fun z => hp ((bm_at ha).mp z))]
theorem m_worst {A : Pg} {P : Nat → Bool} {s : Sg} {i c : Nat} (h7 : A 38 ≤ 7) (hT : T83 A i 10 s) (hc : c < 8) (hP : P 0 = false) (s5 : Int32 × Int32 × Int32) (h5 : s5.2.2 = nI c) :
    Ok (wh (b_X10_ask_52 (nI (bm P 10), s) s5) 4096 ((0 : Int32), (1 : Int32))) (fun e => e.1 = nI (rx P (aG A (A (18 + i)) c) 10)) := by
  refine wh_0 (P := fun t (e : Int32 × Int32) => e.1 = nI (rx P (aG A (A (18 + i)) c) (1 + t)) ∧ e.2 = nI (1 + t)) 9 (by omega) ⟨?_, rfl⟩ ?_
  · have : rx P (aG A (A (18 + i)) c) (1 + 0) = 0 := by
      show rx P _ (0 + 1) = 0
      unfold rx
      rw [if_neg (by rw [hP]; decide)]
      rfl
    rw [this]; rfl
  rintro t ⟨m, x⟩ ht ⟨e1, e2⟩
  dsimp at e1 e2
  subst e1 e2
  unfold b_X10_ask_52
  dsimp +instances only
  by_cases hlt : t < 9
  · left
    refine ⟨hlt, ok_f (n9 (by omega)) ?_⟩
    refine ok_bind (m_alike (P := P) h7 hT hc (show 1 ≤ 1 + t by omega) (by omega) hP s5 h5 (nI (rx P (aG A (A (18 + i)) c) (1 + t)), nI (1 + t)) rfl) (fun e he => ok_app (ok_some ⟨_, rfl, ?_, nI_1 _⟩))
    dsimp only
    rw [he]
    have hr := rx_10 P (aG A (A (18 + i)) c) (1 + t)
    have hs : rx P (aG A (A (18 + i)) c) (1 + (t + 1)) = max (rx P (aG A (A (18 + i)) c) (1 + t)) (if P (1 + t) = true then al P (aG A (A (18 + i)) c) (aG A (A (18 + i)) c (1 + t)) 10 else 0) := rfl
    have hv : (if P (1 + t) = true then al P (aG A (A (18 + i)) c) (aG A (A (18 + i)) c (1 + t)) 10 else 0) ≤ 10 := by
      have := al_le P (aG A (A (18 + i)) c) (aG A (A (18 + i)) c (1 + t)) 10
      split <;> omega
    rw [hs]
    generalize (if P (1 + t) = true then al P (aG A (A (18 + i)) c) (aG A (A (18 + i)) c (1 + t)) 10 else 0) = v at hv
    by_cases z : v ≤ rx P (aG A (A (18 + i)) c) (1 + t)
    · rw [if_pos (nle z (by omega)), show max (rx P (aG A (A (18 + i)) c) (1 + t)) v = rx P (aG A (A (18 + i)) c) (1 + t) by omega]
    · rw [if_neg (nnle (by omega) (by omega)), show max (rx P (aG A (A (18 + i)) c) (1 + t)) v = v by omega]
  · right
    obtain rfl : t = 9 := by omega
    exact ok_t (by decide) (ok_some ⟨_, rfl, rfl⟩)
theorem m_quest {A : Pg} {P : Nat → Bool} {s : Sg} {i : Nat} (h7 : A 38 ≤ 7) (hT : T83 A i 10 s) (hP : P 0 = false) :
    Ok (wh (b_X10_ask_39 (nI (bm P 10), s)) 4096 (nI (cnt P 10), (-4 : Int32), (0 : Int32))) (fun e => e.1 = nI (fo (fun _ => true) (fun c => wx P (aG A (A (18 + i)) c) 10) (cnt P 10) 8).2 ∧ e.2.1 = rI (fo (fun _ => true) (fun c => wx P (aG A (A (18 + i)) c) 10) (cnt P 10) 8).1) := by
  have hc10 := cnt_le P 10
  generalize hV : (fun c => wx P (aG A (A (18 + i)) c) 10) = V
  have hV' : ∀ c, wx P (aG A (A (18 + i)) c) 10 = V c := fun c => by rw [← hV]
  refine wh_0 (P := fun t (e : Int32 × Int32 × Int32) => e.1 = nI (fo (fun _ => true) V (cnt P 10) t).2 ∧ e.2.1 = rI (fo (fun _ => true) V (cnt P 10) t).1 ∧ e.2.2 = nI t) 8 (by omega) ⟨rfl, rfl, rfl⟩ ?_
  rintro t ⟨num, best, x⟩ ht ⟨e1, e2, e3⟩
  dsimp at e1 e2 e3
  subst e3
  unfold b_X10_ask_39
  dsimp +instances only
  by_cases hlt : t < 8
  · left
    refine ⟨hlt, ok_f (show ¬ nI 8 ≤ nI t from nnle hlt (by omega)) ?_⟩
    refine ok_bind (m_worst (P := P) h7 hT hlt hP (num, best, nI t) rfl) (fun e he => ?_)
    rw [he, ← wx_rx, hV']
    have hf := fo_le (e := fun _ => true) (v := V) (n0 := cnt P 10) t
    have hw := wx_10 P (aG A (A (18 + i)) t) 10
    rw [hV'] at hw
    obtain ⟨o1, o2⟩ := m_offerF (c := t) (v := V t) rI rI_s e2 e1 (by omega) (by omega)
    have hs' : fo (fun _ => true) V (cnt P 10) (t + 1) = sf (fo (fun _ => true) V (cnt P 10) t) t (V t) := rfl
    refine ok_app (ok_app (ok_some ⟨_, rfl, ?_, ?_, nI_1 _⟩))
    · rw [hs']; exact o2
    · rw [hs']; exact o1
  · right
    obtain rfl : t = 8 := by omega
    exact ok_t (by decide) (ok_some ⟨_, rfl, e1, e2⟩)
theorem op_ask {σ : Sg} (h : Inv σ) (a b : Int32) : Op (f_X9_ask a b σ) (f_X10_ask a b) := by
  obtain ⟨A, I, h⟩ := h
  have hW := h.2.2.2.1
  have w1 := hW.1.1
  have w4 := hW.1.2.2.2.1
  have xh := xHog (x := a) h.1.2.2.1 (by omega)
  have mh := mHog (x := a) h.2.2.1 (by omega)
  obtain ⟨n, hn, hn1, hn2, hS⟩ := h.2.2.2.2.2.2.1
  by_cases hv : vp_in a (A 41)
  · by_cases hb : vp_in b 2
    · obtain ⟨i, hi, rfl⟩ := vin_nI hv (by omega)
      have w7 := hW.1.2.2.2.2.2.2.1 i hi
      have hP : sP σ A i n 0 = false := by unfold sP; simp
      generalize hF : fo (fun _ => true) (fun c => wx (sP σ A i n) (aG A (A (18 + i)) c) 10) (cnt (sP σ A i n) 10) 8 = F
      have hF1 : F.1 ≤ 8 := by rw [← hF]; exact (fo_le 8).2
      refine op_q2 h (r := if F.1 = 0 then -4 else if b = 0 then nI (F.1 - 1) else nI F.2) ?_ (fun σ1 hs1 => ?_)
      · obtain ⟨g1, g2⟩ := x_copyFrom (b := 13) h.1 hW.1 (by omega)
        unfold f_X9_ask
        rw [xh.1 hv, xHalf.1 hb, if_neg z10, if_neg z10]
        refine ok_app ?_
        refine ok_bind (x_fitSpeeds h (Same.rf.s13 g2) g1 hi hn hn1 hS) (fun y hy => ?_)
        obtain ⟨q1, q2, q3⟩ := hy
        refine ok_in (vp_in_nI (by omega) (by omega)) ?_
        rw [nI_clamp (by omega), q1, show y.2 5 i = nI (A (18 + i)) from by
          rw [q2.1 5 (by unfold scX; omega)]; exact (h.1.2.2.2.2.2.2.1 i hi).1]
        refine ok_bind (x_quest q3 hW.1 w7.1 hP) (fun u hu => ok_some ⟨?_, q2.tr hu.1⟩)
        obtain ⟨u1, u2, u3⟩ := hu
        rw [hF] at u2 u3
        exact told_atF u2 u3 (by omega)
      · have h' := h.same hs1
        unfold f_X10_ask
        rw [(mHog (x := nI i) h'.2.2.1 (by omega)).1 hv, mHalf.1 hb, if_neg z10, if_neg z10]
        refine ok_bind (m_speedsOf h hs1 hi hn hn2 hS) (fun y hy => ?_)
        obtain ⟨q1, q2, q3⟩ := hy
        obtain ⟨m, s⟩ := y
        dsimp at q1 q2 q3
        subst q1
        rw [m_bits _ (bm_1024 _ (Nat.le_refl _)), pop_bm _ 10 (Nat.le_refl _), Option.bind_some]
        refine ok_bind (m_quest w1 q3 hP) (fun e he => ?_)
        rw [hF] at he
        rw [he.1, he.2]
        by_cases z : F.1 = 0
        · rw [if_pos z, if_pos ((rI_none (by omega)).mpr z)]
          exact ok_some ⟨by rw [z]; rfl, q2⟩
        · rw [if_neg z, if_neg (fun q => z ((rI_none (by omega)).mp q))]
          by_cases zb : b = 0
          · rw [if_pos zb, if_pos zb]
            exact ok_some ⟨by unfold rI; rw [if_neg z], q2⟩
          · rw [if_neg zb, if_neg zb]
            exact ok_some ⟨rfl, q2⟩
    · refine op_0 h (r := -1) ?_ ?_
      · unfold f_X9_ask
        rw [xh.1 hv, xHalf.2 hb, if_neg z10, if_pos rfl]
      · unfold f_X10_ask
        rw [mh.1 hv, mHalf.2 hb, if_neg z10, if_pos rfl]
  · refine op_0 h (r := -1) ?_ ?_
    · unfold f_X9_ask
      rw [xh.2 hv, if_pos rfl]
    · unfold f_X10_ask
      rw [mh.2 hv, if_pos rfl]
