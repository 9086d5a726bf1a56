/-! FUNCTIONS AND FRAMES: 't ends with x' against 'the machine goes on' -/
def Imp {X : Type} (t : Option X) (K : X → Prop) (G : Prop) : Prop := ∀ x, t = some x → K x → G
def app {α β : Type} (v : α) (f : α → β) : β := f v
def wh {S R : Type} (f : S → Option (S ⊕ R)) : Nat → S → Option R
  | 0, _ => none
  | n + 1, s => match f s with
    | none => none
    | some (.inl s') => wh f n s'
    | some (.inr r) => some r
def inR (i : Int32) (n : Nat) : Bool := decide (¬ (i < 0 ∨ n ≤ i.toNatClampNeg))
theorem inR_in {i : Int32} {n : Nat} (h : inR i n = true) : vp_in i n := by
  simp only [inR, decide_eq_true_eq] at h
  exact h
theorem inR_of {i : Int32} {n : Nat} (h : vp_in i n) : inR i n = true := by
  simp only [inR, decide_eq_true_eq]
  exact h
def isB (v : Int32) : Bool := v == 0 || v == 1
theorem isB_nar {v : Int32} (h : isB v = true) : narrow .boolean (.int v) = .int v := by
  simp [isB] at h
  rcases h with rfl | rfl <;> rfl
def nz (v : Int32) : Bool := !(v == 0)
theorem nz_ne {v : Int32} (h : nz v = true) : ¬ v = 0 := by simpa [nz] using h
def nzL (v : Int64) : Bool := !(v == 0)
theorem nzL_ne {v : Int64} (h : nzL v = true) : ¬ v = 0 := by simpa [nzL] using h
theorem im_st {X : Type} {t : Option X} {K : X → Prop} {M : Ms} {Q : Option Value → Hp → Prop} {kc1 ks1 pc1 : Nat} {L1 : List (Option Value)} {st1 : List Value} {h1 : Hp} {kc ks pc : Nat} {L : List (Option Value)} {st : List Value} {h : Hp} (x : St M kc1 ks1 pc1 L1 st1 h1 kc ks pc L st h) (k : Imp t K (Go M Q kc1 ks1 pc1 L1 st1 h1)) : Imp t K (Go M Q kc ks pc L st h) := fun y hy hk => Go.st x (k y hy hk)
theorem im_br {X : Type} {t1 t2 : Option X} {K : X → Prop} {M : Ms} {Q : Option Value → Hp → Prop} {c0 : Prop} [d : Decidable c0] {pcT pcF : Nat} {L1 : List (Option Value)} {st1 : List Value} {kc ks pc : Nat} {L : List (Option Value)} {st : List Value} {h : Hp} (x : Br M c0 pcT pcF L1 st1 kc ks pc L st h) (k1 : c0 → Imp t1 K (Go M Q kc ks pcT L1 st1 h)) (k2 : ¬ c0 → Imp t2 K (Go M Q kc ks pcF L1 st1 h)) : Imp (if c0 then t1 else t2) K (Go M Q kc ks pc L st h) := fun y hy hk =>
  Go.br x (fun hc => k1 hc y (by rw [if_pos hc] at hy; exact hy) hk) (fun hc => k2 hc y (by rw [if_neg hc] at hy; exact hy) hk)
theorem im_brS {X : Type} {t1 t2 : X} {K : X → Prop} {M : Ms} {Q : Option Value → Hp → Prop} {c0 : Prop} [d : Decidable c0] {pcT pcF : Nat} {L1 : List (Option Value)} {st1 : List Value} {kc ks pc : Nat} {L : List (Option Value)} {st : List Value} {h : Hp} (x : Br M c0 pcT pcF L1 st1 kc ks pc L st h) (k1 : c0 → Imp (some t1) K (Go M Q kc ks pcT L1 st1 h)) (k2 : ¬ c0 → Imp (some t2) K (Go M Q kc ks pcF L1 st1 h)) : Imp (some (if c0 then t1 else t2)) K (Go M Q kc ks pc L st h) := fun y hy hk =>
  Go.br x (fun hc => k1 hc y (by rw [if_pos hc] at hy; exact hy) hk) (fun hc => k2 hc y (by rw [if_neg hc] at hy; exact hy) hk)
theorem im_if {X : Type} {t1 t2 : Option X} {K : X → Prop} {G : Prop} {c0 : Prop} [d : Decidable c0] (k1 : c0 → Imp t1 K G) (k2 : ¬ c0 → Imp t2 K G) : Imp (if c0 then t1 else t2) K G := fun y hy hk => by
  by_cases hc : c0
  · rw [if_pos hc] at hy; exact k1 hc y hy hk
  · rw [if_neg hc] at hy; exact k2 hc y hy hk
theorem im_ifS {X : Type} {t1 t2 : X} {K : X → Prop} {G : Prop} {c0 : Prop} [d : Decidable c0] (k1 : c0 → Imp (some t1) K G) (k2 : ¬ c0 → Imp (some t2) K G) : Imp (some (if c0 then t1 else t2)) K G := fun y hy hk => by
  by_cases hc : c0
  · rw [if_pos hc] at hy; exact k1 hc y hy hk
  · rw [if_neg hc] at hy; exact k2 hc y hy hk
theorem im_grd {X : Type} {t : Option X} {K : X → Prop} {G : Prop} {c0 : Bool} (k : c0 = true → Imp t K G) : Imp (if c0 then t else none) K G := fun y hy hk => by
  by_cases hc : c0 = true
  · rw [if_pos hc] at hy; exact k hc y hy hk
  · rw [if_neg hc] at hy; cases hy
theorem im_ret {X : Type} {x0 : X} {K : X → Prop} {G : Prop} (k : K x0 → G) : Imp (some x0) K G := fun y hy hk => k (by cases hy; exact hk)
theorem im_bind {X Y : Type} {g : Option Y} {k : Y → Option X} {K : X → Prop} {G : Prop} (h : ∀ y, g = some y → Imp (k y) K G) : Imp (g.bind k) K G := fun x hx hk => by
  cases hg : g with
  | none => rw [hg] at hx; cases hx
  | some y => rw [hg] at hx; exact h y hg x hx hk
theorem im_seq {X J : Type} {g : Option J} {k : J → Option X} {K : X → Prop} {G : Prop} {Gm : J → Prop} (h1 : Imp g Gm G) (h2 : ∀ j, Imp (k j) K (Gm j)) : Imp (g.bind k) K G := fun x hx hk => by
  cases hg : g with
  | none => rw [hg] at hx; cases hx
  | some y => rw [hg] at hx; exact h1 y hg (h2 y x hx hk)
theorem im_app {X J : Type} {g : J} {k : J → Option X} {K : X → Prop} {Gm : J → Prop} (h2 : ∀ j, Imp (k j) K (Gm j)) : Imp (app g k) K (Gm g) := h2 g
theorem im_appS {X J : Type} {g : J} {k : J → X} {K : X → Prop} {Gm : J → Prop} (h2 : ∀ j, Imp (some (k j)) K (Gm j)) : Imp (some (app g k)) K (Gm g) := h2 g
theorem im_seqT {X J : Type} {g : J} {k : J → Option X} {K : X → Prop} {G : Prop} {Gm : J → Prop} (h1 : Imp (some g) Gm G) (h2 : ∀ j, Imp (k j) K (Gm j)) : Imp (app g k) K G := fun x hx hk => h1 g rfl (h2 g x hx hk)
theorem im_seqS {X J : Type} {g : J} {k : J → X} {K : X → Prop} {G : Prop} {Gm : J → Prop} (h1 : Imp (some g) Gm G) (h2 : ∀ j, Imp (some (k j)) K (Gm j)) : Imp (some (app g k)) K G := fun x hx hk => h1 g rfl (h2 g x hx hk)
theorem im_wh {S R : Type} {f : S → Option (S ⊕ R)} {K : R → Prop} {G : S → Prop} (h : ∀ s, Imp (f s) (Sum.elim G K) (G s)) : ∀ (N : Nat) (s : S), Imp (wh f N s) K (G s) := by
  intro N
  induction N with
  | zero => intro s x hx hk; cases hx
  | succ n ih =>
    intro s x hx hk
    unfold wh at hx
    cases hf : f s with
    | none => rw [hf] at hx; cases hx
    | some y =>
      rw [hf] at hx
      cases y with
      | inl s' => exact h s (.inl s') hf (ih s' x hx hk)
      | inr r =>
        simp only [Option.some.injEq] at hx
        subst hx
        exact h s (.inr r) hf hk
/-- fewer known locals -/
def forget (L : List (Option Value)) (ks : List Nat) : List (Option Value) := L.zipIdx.map (fun q => if ks.contains q.2 then none else q.1)
theorem forget_at {L : List (Option Value)} {ks : List Nat} {i : Nat} {v : Value} (h : (forget L ks)[i]? = some (some v)) : L[i]? = some (some v) := by
  unfold forget at h
  rw [List.getElem?_map, List.getElem?_zipIdx] at h
  cases ho : L[i]? with
  | none => rw [ho] at h; cases h
  | some o =>
    rw [ho] at h
    simp only [Option.map_some, Nat.zero_add, Option.some.injEq] at h
    split at h
    · cases h
    · rw [h]
theorem r_fgt {M : Ms} {kc ks pc : Nat} {L L1 : List (Option Value)} {st : List Value} {h : Hp} (z : List Nat) (hL : forget L z = L1) : St M kc ks pc L1 st h kc ks pc L st h := by
  subst hL
  intro p l e R s m args below meth c D ca sv B0 Z ok k H locs ls hP hS hl hz
  exact k H locs ls hP hS ⟨hl.1, hl.2.1, fun i v hv => hl.2.2 i v (forget_at hv)⟩ hz
theorem tsw_not {x k : Int32} {a : Int} (h : ¬ x = k) (hk : k.toInt = a) : x.toInt ≠ a := lv_neT h hk
