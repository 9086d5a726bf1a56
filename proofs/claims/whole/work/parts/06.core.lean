/-! THE PURE MACHINE: a heap by numbers (cell k lies at B0 + k), what a frame holds, one step of it, over the kit's rows.
A heap: how many cells, each cell's kind (class number, or 11 int[], 12 boolean[], 13 long[], 14 Slope[], 15 Sheet[]; length), its references, ints, longs. -/
abbrev Hp : Type := Nat × (Nat → Nat × Nat) × (Nat → Nat → Option Nat) × (Nat → Nat → Int32) × (Nat → Nat → Int64)
/-- a method: name, bytes, locals, what it returns, frames and words of locals below it, cells and slots that it makes -/
abbrev Ms : Type := MethodName × ByteArray × Nat × Option FieldType × Nat × Nat × Nat × Nat
abbrev mY (M : Ms) : MethodName := M.1
abbrev mC (M : Ms) : ByteArray := M.2.1
abbrev mL (M : Ms) : Nat := M.2.2.1
abbrev mR (M : Ms) : Option FieldType := M.2.2.2.1
abbrev mF (M : Ms) : Nat := M.2.2.2.2.1
abbrev mO (M : Ms) : Nat := M.2.2.2.2.2.1
abbrev mK (M : Ms) : Nat := M.2.2.2.2.2.2.1
abbrev mS (M : Ms) : Nat := M.2.2.2.2.2.2.2
abbrev mW (M : Ms) : Cond := .code (mY M) (mC M) (mL M) (mR M)
abbrev mRoom (M : Ms) : Room := { frames := mF M, cells := mK M, slots := mS M, locals := mO M }
def up2 {α : Type} (f : Nat → Nat → α) (a i : Nat) (x : α) : Nat → Nat → α := fun b => if b = a then (fun j => if j = i then x else f b j) else f b
def upR {α : Type} (f : Nat → α) (a : Nat) (r : α) : Nat → α := fun b => if b = a then r else f b
def ph (B0 : Nat) (sv : Nat → Value) : Value → Value
  | .ref k => .ref (B0 + k)
  | .retAddr k => sv k
  | v => v
def hV (B0 : Nat) (h : Hp) (k j kd : Nat) : Value := match kd with
  | 0 => .int (h.2.2.2.1 k j)
  | 1 => .long (h.2.2.2.2 k j)
  | _ => va_rf ((h.2.2.1 k j).map (fun q => B0 + q))
def hfs (B0 : Nat) (h : Hp) (k : Nat) : List Value := (hKd (h.2.1 k).1).mapIdx (fun j kd => hV B0 h k j kd)
def hAr (B0 : Nat) (h : Hp) (k : Nat) (tag : Nat) : (Nat → Int32) ⊕ (Nat → Int64) ⊕ (Nat → UInt32) ⊕ (Nat → UInt64) ⊕ (Nat → Option Nat) :=
  if tag = 13 then .inr (.inl (h.2.2.2.2 k)) else if tag ≤ 12 then .inl (h.2.2.2.1 k) else .inr (.inr (.inr (.inr (fun i => (h.2.2.1 k i).map (fun q => B0 + q)))))
def hE (ca : Nat → ClassId) (B0 : Nat) (h : Hp) (k : Nat) : va_E :=
  if (h.2.1 k).1 < 11 then .inr ((h.2.1 k).1, hfs B0 h k) else .inl (ca (h.2.1 k).1, ((h.2.1 k).2, hAr B0 h k (h.2.1 k).1))
def wld (ca : Nat → ClassId) (B0 : Nat) (h : Hp) : va_W := (List.range h.1).map (fun k => (B0 + k, hE ca B0 h k))
def tysOf (ca : Nat → ClassId) : List (ClassId × FieldType) := [(ca 11, .int), (ca 12, .boolean), (ca 13, .long), (ca 14, .object RX7), (ca 15, .object RX6)]
theorem up2_same {α : Type} (f : Nat → Nat → α) (a i : Nat) (x : α) : up2 f a i x a i = x := by simp [up2]
theorem up2_cell {α : Type} (f : Nat → Nat → α) {a b : Nat} (i : Nat) (x : α) (h : b ≠ a) : up2 f a i x b = f b := by simp [up2, h]
theorem up2_slot {α : Type} (f : Nat → Nat → α) {a i j : Nat} (x : α) (h : j ≠ i) : up2 f a i x a j = f a j := by simp [up2, h]
theorem up2_row (f : Nat → Nat → Int32) (a i : Nat) (x : Int32) : up2 f a i x a = upd (f a) i x := by funext j; simp [up2, upd]
theorem up2_rowL (f : Nat → Nat → Int64) (a i : Nat) (x : Int64) : up2 f a i x a = vp_updL (f a) i x := by funext j; simp [up2, vp_updL]
theorem upR_same {α : Type} (f : Nat → α) (a : Nat) (r : α) : upR f a r a = r := by simp [upR]
theorem upR_ne {α : Type} (f : Nat → α) {a b : Nat} (r : α) (h : b ≠ a) : upR f a r b = f b := by simp [upR, h]
theorem wld_get {ca : Nat → ClassId} {B0 : Nat} {h : Hp} {k : Nat} (hk : k < h.1) : (wld ca B0 h)[k]? = some (B0 + k, hE ca B0 h k) := by
  simp [wld, hk]
theorem wld_some {ca : Nat → ClassId} {B0 : Nat} {h : Hp} {k : Nat} {q : Nat × va_E} (hk : (wld ca B0 h)[k]? = some q) : k < h.1 ∧ q = (B0 + k, hE ca B0 h k) := by
  have hl : k < h.1 := by
    have := (List.getElem?_eq_some_iff.mp hk).1
    simpa [wld] using this
  rw [wld_get hl] at hk
  exact ⟨hl, (Option.some.inj hk).symm⟩
theorem wld_D (ca : Nat → ClassId) (B0 : Nat) (h : Hp) : va_D (fun q => B0 ≤ q) (wld ca B0 h) := by
  refine ⟨fun i j p q hi hj e => ?_, fun k q hk => ?_⟩
  · obtain ⟨-, rfl⟩ := wld_some hi
    obtain ⟨-, rfl⟩ := wld_some hj
    exact Nat.add_left_cancel e
  · obtain ⟨-, rfl⟩ := wld_some hk
    exact Nat.le_add_right _ _
theorem wld_ext {D : va_G} {ca : Nat → ClassId} {B0 : Nat} {h h' : Hp} {H : Heap} (hn : h'.1 = h.1) (he : ∀ k, k < h.1 → hE ca B0 h' k = hE ca B0 h k) (hP : va_P D vwCl (wld ca B0 h) H) : va_P D vwCl (wld ca B0 h') H := by
  intro k q hk
  obtain ⟨hl, rfl⟩ := wld_some hk
  rw [he k (hn ▸ hl)]
  exact hP k _ (wld_get (hn ▸ hl))
theorem wld_set {ca : Nat → ClassId} {B0 : Nat} {h h' : Hp} {k : Nat} {E : va_E} (hn : h'.1 = h.1) (he : ∀ j, j ≠ k → hE ca B0 h' j = hE ca B0 h j) (hE' : E = hE ca B0 h' k) : (wld ca B0 h).set k (B0 + k, E) = wld ca B0 h' := by
  subst hE'
  apply List.ext_getElem?
  intro i
  by_cases hi : i < h.1
  · rw [wld_get (h := h') (hn ▸ hi)]
    by_cases hk : i = k
    · subst hk
      rw [List.getElem?_set_self (by simpa [wld] using hi)]
    · rw [List.getElem?_set_ne (Ne.symm hk), wld_get hi, he i hk]
  · rw [List.getElem?_eq_none (by simpa [wld] using Nat.le_of_not_lt hi), List.getElem?_eq_none (by simpa [wld, hn] using Nat.le_of_not_lt hi)]
theorem hE_obj {ca : Nat → ClassId} {B0 : Nat} {h : Hp} {k tag n : Nat} (ht : h.2.1 k = (tag, n)) (hl : tag < 11) : hE ca B0 h k = .inr (tag, hfs B0 h k) := by
  unfold hE
  rw [ht, if_pos hl]
theorem hE_arI {ca : Nat → ClassId} {B0 : Nat} {h : Hp} {k tag n : Nat} (ht : h.2.1 k = (tag, n)) (h1 : 11 ≤ tag) (h2 : tag ≤ 12) : hE ca B0 h k = .inl (ca tag, (n, .inl (h.2.2.2.1 k))) := by
  unfold hE hAr
  rw [ht, if_neg (by simp; omega), if_neg (by simp; omega), if_pos h2]
theorem hE_arJ {ca : Nat → ClassId} {B0 : Nat} {h : Hp} {k n : Nat} (ht : h.2.1 k = (13, n)) : hE ca B0 h k = .inl (ca 13, (n, .inr (.inl (h.2.2.2.2 k)))) := by
  unfold hE hAr
  rw [ht]; rfl
theorem hE_arR {ca : Nat → ClassId} {B0 : Nat} {h : Hp} {k tag n : Nat} (ht : h.2.1 k = (tag, n)) (h1 : 14 ≤ tag) : hE ca B0 h k = .inl (ca tag, (n, .inr (.inr (.inr (.inr (fun i => (h.2.2.1 k i).map (fun q => B0 + q))))))) := by
  unfold hE hAr
  rw [ht, if_neg (by simp; omega), if_neg (by simp; omega), if_neg (by simp; omega)]
theorem hE_congr {ca : Nat → ClassId} {B0 : Nat} {h h' : Hp} {k : Nat} (h1 : h'.2.1 k = h.2.1 k) (h2 : h'.2.2.1 k = h.2.2.1 k) (h3 : h'.2.2.2.1 k = h.2.2.2.1 k) (h4 : h'.2.2.2.2 k = h.2.2.2.2 k) : hE ca B0 h' k = hE ca B0 h k := by
  unfold hE hAr hfs hV
  rw [h1, h2, h3, h4]
theorem hfs_get {B0 : Nat} {h : Hp} {k tag n j kd : Nat} (ht : h.2.1 k = (tag, n)) (hk : (hKd tag)[j]? = some kd) : (hfs B0 h k)[j]? = some (hV B0 h k j kd) := by
  unfold hfs
  rw [ht, List.getElem?_mapIdx, hk]
  rfl
theorem hfs_len {B0 : Nat} {h : Hp} {k tag n j kd : Nat} (ht : h.2.1 k = (tag, n)) (hk : (hKd tag)[j]? = some kd) : j < (hfs B0 h k).length := by
  unfold hfs
  rw [ht, List.length_mapIdx]
  exact (List.getElem?_eq_some_iff.mp hk).1
theorem hfs_set {B0 : Nat} {h h' : Hp} {k tag n j kd : Nat} {v : Value} (ht : h.2.1 k = (tag, n)) (ht' : h'.2.1 k = (tag, n)) (hk : (hKd tag)[j]? = some kd) (hv : hV B0 h' k j kd = v) (ho : ∀ i kd, i ≠ j → hV B0 h' k i kd = hV B0 h k i kd) : (hfs B0 h k).set j v = hfs B0 h' k := by
  apply List.ext_getElem?
  intro i
  by_cases hi : i = j
  · subst hi
    rw [List.getElem?_set_self (hfs_len ht hk), hfs_get ht' hk, hv]
  · rw [List.getElem?_set_ne (Ne.symm hi)]
    unfold hfs
    rw [ht, ht', List.getElem?_mapIdx, List.getElem?_mapIdx]
    cases (hKd tag)[i]? with
    | none => rfl
    | some kd' => simp only [Option.map_some]; rw [ho i kd' hi]
-- writes
def setI (h : Hp) (a i : Nat) (x : Int32) : Hp := (h.1, h.2.1, h.2.2.1, up2 h.2.2.2.1 a i x, h.2.2.2.2)
def setJ (h : Hp) (a i : Nat) (x : Int64) : Hp := (h.1, h.2.1, h.2.2.1, h.2.2.2.1, up2 h.2.2.2.2 a i x)
def setR (h : Hp) (a i : Nat) (x : Nat) : Hp := (h.1, h.2.1, up2 h.2.2.1 a i (some x), h.2.2.2.1, h.2.2.2.2)
def rowI (h : Hp) (a : Nat) (r : Nat → Int32) : Hp := (h.1, h.2.1, h.2.2.1, upR h.2.2.2.1 a r, h.2.2.2.2)
def rowJ (h : Hp) (a : Nat) (r : Nat → Int64) : Hp := (h.1, h.2.1, h.2.2.1, h.2.2.2.1, upR h.2.2.2.2 a r)
def newC (h : Hp) (tag n : Nat) : Hp := (h.1 + 1, upR h.2.1 h.1 (tag, n), upR h.2.2.1 h.1 (fun _ => none), upR h.2.2.2.1 h.1 (fun _ => 0), upR h.2.2.2.2 h.1 (fun _ => 0))
theorem hV_setI {B0 : Nat} {h : Hp} {a j : Nat} {x : Int32} {i kd : Nat} (hi : i ≠ j) : hV B0 (setI h a j x) a i kd = hV B0 h a i kd := by
  unfold hV setI
  rcases kd with _ | _ | kd
  · simp only [up2_slot _ x hi]
  · rfl
  · rfl
theorem hV_setJ {B0 : Nat} {h : Hp} {a j : Nat} {x : Int64} {i kd : Nat} (hi : i ≠ j) : hV B0 (setJ h a j x) a i kd = hV B0 h a i kd := by
  unfold hV setJ
  rcases kd with _ | _ | kd
  · rfl
  · simp only [up2_slot _ x hi]
  · rfl
theorem hV_setR {B0 : Nat} {h : Hp} {a j : Nat} {x : Nat} {i kd : Nat} (hi : i ≠ j) : hV B0 (setR h a j x) a i kd = hV B0 h a i kd := by
  unfold hV setR
  rcases kd with _ | _ | kd
  · rfl
  · rfl
  · simp only [up2_slot _ _ hi]
theorem hE_setI {ca : Nat → ClassId} {B0 : Nat} {h : Hp} {a i : Nat} {x : Int32} : ∀ j, j ≠ a → hE ca B0 (setI h a i x) j = hE ca B0 h j := fun j hj => hE_congr rfl rfl (up2_cell _ i x hj) rfl
theorem hE_setJ {ca : Nat → ClassId} {B0 : Nat} {h : Hp} {a i : Nat} {x : Int64} : ∀ j, j ≠ a → hE ca B0 (setJ h a i x) j = hE ca B0 h j := fun j hj => hE_congr rfl rfl rfl (up2_cell _ i x hj)
theorem hE_setR {ca : Nat → ClassId} {B0 : Nat} {h : Hp} {a i : Nat} {x : Nat} : ∀ j, j ≠ a → hE ca B0 (setR h a i x) j = hE ca B0 h j := fun j hj => hE_congr rfl (up2_cell _ i _ hj) rfl rfl
theorem hE_rowI {ca : Nat → ClassId} {B0 : Nat} {h : Hp} {a : Nat} {r : Nat → Int32} : ∀ j, j ≠ a → hE ca B0 (rowI h a r) j = hE ca B0 h j := fun j hj => hE_congr rfl rfl (upR_ne _ r hj) rfl
theorem hE_rowJ {ca : Nat → ClassId} {B0 : Nat} {h : Hp} {a : Nat} {r : Nat → Int64} : ∀ j, j ≠ a → hE ca B0 (rowJ h a r) j = hE ca B0 h j := fun j hj => hE_congr rfl rfl rfl (upR_ne _ r hj)
theorem hE_newC {ca : Nat → ClassId} {B0 : Nat} {h : Hp} {tag n : Nat} : ∀ j, j < h.1 → hE ca B0 (newC h tag n) j = hE ca B0 h j := fun j hj => hE_congr (upR_ne _ _ (by omega)) (upR_ne _ _ (by omega)) (upR_ne _ _ (by omega)) (upR_ne _ _ (by omega))
theorem wld_new {ca : Nat → ClassId} {B0 : Nat} {h : Hp} {tag n : Nat} : wld ca B0 (newC h tag n) = wld ca B0 h ++ [(B0 + h.1, hE ca B0 (newC h tag n) h.1)] := by
  unfold wld
  rw [show (newC h tag n).1 = h.1 + 1 from rfl, List.range_succ, List.map_append]
  congr 1
  apply List.map_congr_left
  intro k hk
  rw [hE_newC k (List.mem_range.mp hk)]
-- locals
def Lc (B0 : Nat) (sv : Nat → Value) (nL : Nat) (ls : Array Slot) (L : List (Option Value)) : Prop := ls.size = nL ∧ lv_wf ls ∧ ∀ (i : Nat) (v : Value), L[i]? = some (some v) → ls[i]? = some (.val (ph B0 sv v))
def toLv (B0 : Nat) (sv : Nat → Value) (L : List (Option Value)) : List (Nat × Value) := L.zipIdx.filterMap (fun q => q.1.map (fun v => (q.2, ph B0 sv v)))
def isL : Option Value → Bool
  | some (.long _) => true
  | some (.double _) => true
  | _ => false
def lset (L : List (Option Value)) (i : Nat) (v : Value) : List (Option Value) := L.zipIdx.map (fun q => if q.2 = i then some v else if q.2 + 1 = i ∧ isL q.1 = true then none else q.1)
def lset2 (L : List (Option Value)) (i : Nat) (v : Value) : List (Option Value) := L.zipIdx.map (fun q => if q.2 = i then some v else if q.2 = i + 1 then none else if q.2 + 1 = i ∧ isL q.1 = true then none else q.1)
theorem toLv_mem {B0 : Nat} {sv : Nat → Value} {L : List (Option Value)} {q : Nat × Value} (h : q ∈ toLv B0 sv L) : ∃ v, L[q.1]? = some (some v) ∧ q.2 = ph B0 sv v := by
  obtain ⟨⟨o, i⟩, hm, he⟩ := List.mem_filterMap.mp h
  obtain ⟨n, hn⟩ := List.getElem?_of_mem hm
  rw [List.getElem?_zipIdx] at hn
  cases ho : L[n]? with
  | none => rw [ho] at hn; cases hn
  | some o' =>
    rw [ho] at hn
    simp at hn
    obtain ⟨rfl, rfl⟩ := hn
    cases o' with
    | none => simp at he
    | some v =>
      simp at he
      subst he
      exact ⟨v, ho, rfl⟩
theorem toLv_in {B0 : Nat} {sv : Nat → Value} {L : List (Option Value)} {i : Nat} {v : Value} (h : L[i]? = some (some v)) : (i, ph B0 sv v) ∈ toLv B0 sv L := by
  refine List.mem_filterMap.mpr ⟨(some v, i), ?_, rfl⟩
  apply List.mem_of_getElem? (i := i)
  rw [List.getElem?_zipIdx, h]
  simp
theorem Lc.has {B0 : Nat} {sv : Nat → Value} {nL : Nat} {ls : Array Slot} {L : List (Option Value)} (h : Lc B0 sv nL ls L) : lv_has ls nL (toLv B0 sv L) := ⟨h.1, h.2.1, fun q hq => by
  obtain ⟨v, h1, h2⟩ := toLv_mem hq
  rw [h2]
  exact h.2.2 _ _ h1⟩
theorem isL_iff {v : Value} : isL (some v) = true ↔ v.category = 2 := by cases v <;> simp [isL, Value.category]
theorem lset_at {L : List (Option Value)} {i j : Nat} {v w : Value} (h : (lset L i v)[j]? = some (some w)) : (j = i ∧ w = v) ∨ (j ≠ i ∧ L[j]? = some (some w) ∧ ¬ (j + 1 = i ∧ w.category = 2)) := by
  unfold lset at h
  rw [List.getElem?_map, List.getElem?_zipIdx] at h
  cases ho : L[j]? with
  | none => rw [ho] at h; cases h
  | some o =>
    rw [ho] at h
    simp only [Option.map_some, Nat.zero_add, Option.some.injEq] at h
    by_cases h1 : j = i
    · rw [if_pos h1] at h
      exact Or.inl ⟨h1, (Option.some.inj h).symm⟩
    · rw [if_neg h1] at h
      by_cases h2 : j + 1 = i ∧ isL o = true
      · rw [if_pos h2] at h; cases h
      · rw [if_neg h2] at h
        subst h
        exact Or.inr ⟨h1, rfl, fun q => h2 ⟨q.1, isL_iff.mpr q.2⟩⟩
theorem lset2_at {L : List (Option Value)} {i j : Nat} {v w : Value} (h : (lset2 L i v)[j]? = some (some w)) : (j = i ∧ w = v) ∨ (j ≠ i ∧ j ≠ i + 1 ∧ L[j]? = some (some w) ∧ ¬ (j + 1 = i ∧ w.category = 2)) := by
  unfold lset2 at h
  rw [List.getElem?_map, List.getElem?_zipIdx] at h
  cases ho : L[j]? with
  | none => rw [ho] at h; cases h
  | some o =>
    rw [ho] at h
    simp only [Option.map_some, Nat.zero_add, Option.some.injEq] at h
    by_cases h1 : j = i
    · rw [if_pos h1] at h
      exact Or.inl ⟨h1, (Option.some.inj h).symm⟩
    · rw [if_neg h1] at h
      by_cases h3 : j = i + 1
      · rw [if_pos h3] at h; cases h
      · rw [if_neg h3] at h
        by_cases h2 : j + 1 = i ∧ isL o = true
        · rw [if_pos h2] at h; cases h
        · rw [if_neg h2] at h
          subst h
          exact Or.inr ⟨h1, h3, rfl, fun q => h2 ⟨q.1, isL_iff.mpr q.2⟩⟩
theorem ph_cat {B0 : Nat} {sv : Nat → Value} (hs : ∀ k, (sv k).category = 1) (v : Value) : (ph B0 sv v).category = v.category := by
  cases v
  case retAddr k => exact hs k
  all_goals rfl
theorem Lc.set1 {B0 : Nat} {sv : Nat → Value} {nL : Nat} {ls' : Array Slot} {L : List (Option Value)} {i : Nat} {v : Value} (hs : ∀ k, (sv k).category = 1) (h : lv_has ls' nL ((i, ph B0 sv v) :: (toLv B0 sv L).filter (fun q => !(q.1 == i) && !(q.1 + 1 == i && q.2.category == 2)))) : Lc B0 sv nL ls' (lset L i v) := ⟨h.1, h.2.1, fun j w hj => by
  rcases lset_at hj with ⟨rfl, rfl⟩ | ⟨h1, h2, h3⟩
  · exact h.2.2 _ List.mem_cons_self
  · refine h.2.2 (j, ph B0 sv w) (List.mem_cons_of_mem _ (List.mem_filter.mpr ⟨toLv_in h2, ?_⟩))
    have h4 : ¬ (j + 1 = i ∧ (ph B0 sv w).category = 2) := by rw [ph_cat hs]; exact h3
    simp only [Bool.and_eq_true, Bool.not_eq_true', beq_eq_false_iff_ne, ne_eq, Bool.and_eq_false_iff]
    refine ⟨h1, ?_⟩
    by_cases h5 : j + 1 = i
    · exact Or.inr (fun q => h4 ⟨h5, q⟩)
    · exact Or.inl h5⟩
theorem Lc.set2 {B0 : Nat} {sv : Nat → Value} {nL : Nat} {ls' : Array Slot} {L : List (Option Value)} {i : Nat} {v : Value} (hs : ∀ k, (sv k).category = 1) (h : lv_has ls' nL ((i, ph B0 sv v) :: (toLv B0 sv L).filter (fun q => !(q.1 == i) && (!(q.1 == i + 1) && !(q.1 + 1 == i && q.2.category == 2))))) : Lc B0 sv nL ls' (lset2 L i v) := ⟨h.1, h.2.1, fun j w hj => by
  rcases lset2_at hj with ⟨rfl, rfl⟩ | ⟨h1, h6, h2, h3⟩
  · exact h.2.2 _ List.mem_cons_self
  · refine h.2.2 (j, ph B0 sv w) (List.mem_cons_of_mem _ (List.mem_filter.mpr ⟨toLv_in h2, ?_⟩))
    have h4 : ¬ (j + 1 = i ∧ (ph B0 sv w).category = 2) := by rw [ph_cat hs]; exact h3
    simp only [Bool.and_eq_true, Bool.not_eq_true', beq_eq_false_iff_ne, ne_eq, Bool.and_eq_false_iff]
    refine ⟨h1, h6, ?_⟩
    by_cases h5 : j + 1 = i
    · exact Or.inr (fun q => h4 ⟨h5, q⟩)
    · exact Or.inl h5⟩
/-- the locals at a method's entry -/
def entL (nL : Nat) (as : List Value) : List (Option Value) := as.flatMap (fun v => if v.category = 2 then [some v, none] else [some v]) ++ List.replicate (nL - (as.map fun v => v.category).sum) none
theorem entL_args {B0 : Nat} {sv : Nat → Value} (hs : ∀ k, (sv k).category = 1) : ∀ (as : List Value) (m k i : Nat) (v : Value), (as.flatMap (fun v => if v.category = 2 then [some v, none] else [some v]) ++ List.replicate m none)[i]? = some (some v) → (k + i, ph B0 sv v) ∈ lv_args k (as.map (ph B0 sv)) := by
  intro as
  induction as with
  | nil =>
    intro m k i v h
    simp only [List.flatMap_nil, List.nil_append, List.getElem?_replicate] at h
    split at h <;> simp at h
  | cons a as ih =>
    intro m k i v h
    simp only [List.flatMap_cons, List.map_cons, lv_args, ph_cat hs] at h ⊢
    by_cases hc : a.category = 2
    · rw [if_pos hc] at h ⊢
      match i, h with
      | 0, h =>
        simp at h
        subst h
        exact List.mem_cons_self
      | 1, h => simp at h
      | i + 2, h =>
        have h' : (as.flatMap (fun v => if v.category = 2 then [some v, none] else [some v]) ++ List.replicate m none)[i]? = some (some v) := by simpa using h
        have := ih m (k + 2) i v h'
        rw [show k + (i + 2) = k + 2 + i by omega]
        exact List.mem_cons_of_mem _ this
    · rw [if_neg hc] at h ⊢
      match i, h with
      | 0, h =>
        simp at h
        subst h
        exact List.mem_cons_self
      | i + 1, h =>
        have h' : (as.flatMap (fun v => if v.category = 2 then [some v, none] else [some v]) ++ List.replicate m none)[i]? = some (some v) := by simpa using h
        have := ih m (k + 1) i v h'
        rw [show k + (i + 1) = k + 1 + i by omega]
        exact List.mem_cons_of_mem _ this
theorem Lc.entry {B0 : Nat} {sv : Nat → Value} {nL : Nat} {ls : Array Slot} {as : List Value} (hs : ∀ k, (sv k).category = 1) (h : lv_has ls nL (lv_args 0 (as.map (ph B0 sv)))) : Lc B0 sv nL ls (entL nL as) := ⟨h.1, h.2.1, fun i v hi => by
  have := entL_args (B0 := B0) hs as _ 0 i v hi
  rw [Nat.zero_add] at this
  exact h.2.2 _ this⟩
theorem lg_sl_len {B0 : Nat} {sv : Nat → Value} (hs : ∀ k, (sv k).category = 1) : ∀ as : List Value, (lg_sl (as.map (ph B0 sv))).length = (as.map fun v => v.category).sum := by
  intro as
  induction as with
  | nil => rfl
  | cons a as ih =>
    have e : lg_sl ((a :: as).map (ph B0 sv)) = (if (ph B0 sv a).category = 2 then [.val (ph B0 sv a), .second] else [.val (ph B0 sv a)]) ++ lg_sl (as.map (ph B0 sv)) := by simp [lg_sl]
    rw [e, List.length_append, ih, ph_cat hs]
    rcases lv_cat a with h | h <;> rw [h] <;> simp [h]
-- what a launch gives besides the heap: classes, nest mates, texts, the JDK's statics
def lenS : List Nat := [3, 4, 4, 5, 3, 5, 4]
def bytS : List (List Int32) := [[112, 101, 103], [115, 108, 117, 103], [115, 117, 105, 116], [112, 108, 97, 105, 110], [102, 97, 116], [121, 111, 117, 110, 103], [98, 111, 97, 114]]
def sIx : Nat → Nat := fun i => match i with | 0 => 90 | 1 => 99 | 2 => 104 | 3 => 109 | 4 => 114 | 5 => 116 | _ => 118
def sTx : Nat → String := fun i => match i with | 0 => "peg" | 1 => "slug" | 2 => "suit" | 3 => "plain" | 4 => "fat" | 5 => "young" | _ => "boar"
def CX (D : va_G) (ca : Nat → ClassId) (sv : Nat → Value) (B0 : Nat) (U : State) (H : Heap) : Prop :=
  va_K D vwCl (tysOf ca) U ∧ (∀ w ∈ nestW, ∃ a i x b, w = Cond.methodLinkNest a i x b ∧ va_Nw w U) ∧ va_AO RX7 U ∧ va_AO RX6 U ∧ (∀ k, (sv k).category = 1) ∧
  (∃ adK adV : Nat → Nat, (∀ i, i < 7 → sv i = .ref (adK i) ∧ sv (100 + i) = .ref (adV i)) ∧ (∀ i, i < 7 → vk_R RX4 (sIx i) (sTx i) (adK i) U) ∧ vk_S 7 lenS bytS adK adV (fun q => B0 ≤ q) U H) ∧
  va_Z RJ0 "COMPACT_STRINGS" "Z" (.int 1) (fun q => B0 ≤ q) U H ∧ va_Z RJ3 "SIOOBE_FORMATTER" "Ljava/util/function/BiFunction;" (sv 999) (fun q => B0 ≤ q) U H
theorem CX.warm {D : va_G} {ca : Nat → ClassId} {sv : Nat → Value} {B0 : Nat} {s U : State} {H H1 : Heap} (h : CX D ca sv B0 s H) (hW : s.WarmedH U.vm) (hq : ∀ a : Nat, a < H.size → ¬ B0 ≤ a → H1[a]? = H[a]?) : CX D ca sv B0 U H1 := by
  obtain ⟨h1, h2, h3, h4, h5, ⟨adK, adV, h6, h7, h8⟩, h9, h10⟩ := h
  have hv : s.vm.Alike U.vm := hW.alike
  refine ⟨h1.moved hv, fun w hw => ?_, h3.moved hv, h4.moved hv, h5, ⟨adK, adV, h6, fun i hi => (h7 i hi).warm hW, (h8.moved hv).kept hq⟩, (h9.moved hv).kept hq, (h10.moved hv).kept hq⟩
  obtain ⟨a, i, x, b, rfl, hz⟩ := h2 w hw
  exact ⟨a, i, x, b, rfl, va_Nw.warmM hW hz⟩
theorem va_AO.same {C : String} {u U : State} (hv : u.vm = U.vm) (h : va_AO C u) : va_AO C U := h.moved (by rw [← hv]; exact Vm.Alike.refl _)
theorem CX.same {D : va_G} {ca : Nat → ClassId} {sv : Nat → Value} {B0 : Nat} {u U : State} {H : Heap} (hv : u.vm = U.vm) (h : CX D ca sv B0 u H) : CX D ca sv B0 U H := by
  obtain ⟨h1, h2, h3, h4, h5, ⟨adK, adV, h6, h7, h8⟩, h9, h10⟩ := h
  have ha : u.vm.Alike U.vm := by rw [← hv]; exact Vm.Alike.refl _
  refine ⟨h1.moved ha, fun w hw => ?_, h3.moved ha, h4.moved ha, h5, ⟨adK, adV, h6, fun i hi => (h7 i hi).same hv.symm, h8.moved ha⟩, h9.moved ha, h10.moved ha⟩
  obtain ⟨a, i, x, b, rfl, hz⟩ := h2 w hw
  exact ⟨a, i, x, b, rfl, va_Nw.same rfl hv hz⟩
/-- what holds in a frame of method M -/
def OK (M : Ms) (p : Program) (R : Room) (s : State) (m : MethodId) (args : Array Value) (meth : Method) (c : Code) (D : va_G) (ca : Nat → ClassId) (sv : Nat → Value) (B0 : Nat) : Prop :=
  p.tables.exec = Jvm.exec ∧ c.code = mC M ∧ c.maxLocals = mL M ∧ s.vm.findClass (mY M).cls = some m.cls ∧ (∀ w ∈ TB, w.before args s = true) ∧ CX D ca sv B0 s s.heap ∧ B0 ≤ s.heap.size ∧ meth.sig.returnType = mR M ∧ meth.locks = false ∧ ((mY M).name = "<init>" → meth.name = "<init>") ∧ R = mRoom M
/-- from this point of M's frame on, over the heap h, the machine comes to Z -/
def Go0 (p : Program) (l : Launch) (e : Env) (R : Room) (s : State) (m : MethodId) (args : Array Value) (below : List Frame) (meth : Method) (c : Code) (D : va_G) (ca : Nat → ClassId) (sv : Nat → Value) (B0 nL : Nat) (Z : State → Prop) (kc ks pc : Nat) (L : List (Option Value)) (st : List Value) (h : Hp) : Prop :=
  ∀ (H : Heap) (locs : List Loc) (ls : Array Slot), va_P D vwCl (wld ca B0 h) H → va_S (fun q => B0 ≤ q) s.heap H locs → Lc B0 sv nL ls L → s.heap.size + kc = B0 + h.1 → W p l e R s m args below meth c H locs kc ks Z (F0 m pc ls (st.map (ph B0 sv)))
/-- one step of M's frame -/
def St (M : Ms) (kc1 ks1 pc1 : Nat) (L1 : List (Option Value)) (st1 : List Value) (h1 : Hp) (kc ks pc : Nat) (L : List (Option Value)) (st : List Value) (h : Hp) : Prop :=
  ∀ (p : Program) (l : Launch) (e : Env) (R : Room) (s : State) (m : MethodId) (args : Array Value) (below : List Frame) (meth : Method) (c : Code) (D : va_G) (ca : Nat → ClassId) (sv : Nat → Value) (B0 : Nat) (Z : State → Prop), OK M p R s m args meth c D ca sv B0 →
    Go0 p l e R s m args below meth c D ca sv B0 (mL M) Z kc1 ks1 pc1 L1 st1 h1 → Go0 p l e R s m args below meth c D ca sv B0 (mL M) Z kc ks pc L st h
/-- two ways on -/
def Br (M : Ms) (c0 : Prop) (pcT pcF : Nat) (L1 : List (Option Value)) (st1 : List Value) (kc ks pc : Nat) (L : List (Option Value)) (st : List Value) (h : Hp) : Prop :=
  ∀ (p : Program) (l : Launch) (e : Env) (R : Room) (s : State) (m : MethodId) (args : Array Value) (below : List Frame) (meth : Method) (c : Code) (D : va_G) (ca : Nat → ClassId) (sv : Nat → Value) (B0 : Nat) (Z : State → Prop), OK M p R s m args meth c D ca sv B0 →
    (c0 → Go0 p l e R s m args below meth c D ca sv B0 (mL M) Z kc ks pcT L1 st1 h) → (¬ c0 → Go0 p l e R s m args below meth c D ca sv B0 (mL M) Z kc ks pcF L1 st1 h) → Go0 p l e R s m args below meth c D ca sv B0 (mL M) Z kc ks pc L st h
/-- a method's end -/
def qC (D : va_G) (ca : Nat → ClassId) (sv : Nat → Value) (B0 mc : Nat) (Q : Option Value → Hp → Prop) : Array Value → State → Outcome → State → Prop := fun _ st oc t =>
  (∃ (r : Option Value) (h' : Hp), oc = .returned (r.map (ph B0 sv)) ∧ Q r h' ∧ B0 + h'.1 = st.heap.size + mc ∧ va_P D vwCl (wld ca B0 h') t.heap) ∧ va_F (fun q => B0 ≤ q) st t
def pC (D : va_G) (ca : Nat → ClassId) (sv : Nat → Value) (B0 : Nat) (h : Hp) : State → Prop := fun U => U.heap.size = B0 + h.1 ∧ va_P D vwCl (wld ca B0 h) U.heap ∧ CX D ca sv B0 U U.heap
/-- M, called on the heap h, ends with Q -/
def EvM (M : Ms) (as : List Value) (h : Hp) (Q : Option Value → Hp → Prop) : Prop :=
  ∀ (l : Launch) (D : va_G) (ca : Nat → ClassId) (sv : Nat → Value) (B0 : Nat), Met l (mY M) (mW M :: TB) (mRoom M) (va_Pc (as.map (ph B0 sv)) (pC D ca sv B0 h)) (qC D ca sv B0 (mK M) Q) (mK M) (mS M) (fun q => B0 ≤ q)
abbrev EvD (M : Ms) (as : List Value) (h : Hp) (r : Option Value) (h' : Hp) : Prop := EvM M as h (fun r1 h1 => r1 = r ∧ h1 = h')
/-- from this point of M's frame on M ends with Q -/
def Go (M : Ms) (Q : Option Value → Hp → Prop) (kc ks pc : Nat) (L : List (Option Value)) (st : List Value) (h : Hp) : Prop :=
  ∀ (p : Program) (l : Launch) (e : Env) (s : State) (m : MethodId) (args : Array Value) (below : List Frame) (meth : Method) (c : Code) (D : va_G) (ca : Nat → ClassId) (sv : Nat → Value) (B0 : Nat), OK M p (mRoom M) s m args meth c D ca sv B0 →
    Go0 p l e (mRoom M) s m args below meth c D ca sv B0 (mL M) (MQ below (qC D ca sv B0 (mK M) Q) args s (mK M) (mS M) (fun q => B0 ≤ q)) kc ks pc L st h
theorem Go.st {M : Ms} {Q : Option Value → Hp → Prop} {kc1 ks1 pc1 : Nat} {L1 : List (Option Value)} {st1 : List Value} {h1 : Hp} {kc ks pc : Nat} {L : List (Option Value)} {st : List Value} {h : Hp} (x : St M kc1 ks1 pc1 L1 st1 h1 kc ks pc L st h) (k : Go M Q kc1 ks1 pc1 L1 st1 h1) : Go M Q kc ks pc L st h :=
  fun p l e s m args below meth c D ca sv B0 ok => x p l e _ s m args below meth c D ca sv B0 _ ok (k p l e s m args below meth c D ca sv B0 ok)
theorem Go.br {M : Ms} {Q : Option Value → Hp → Prop} {c0 : Prop} {pcT pcF : Nat} {L1 : List (Option Value)} {st1 : List Value} {kc ks pc : Nat} {L : List (Option Value)} {st : List Value} {h : Hp} (x : Br M c0 pcT pcF L1 st1 kc ks pc L st h) (k1 : c0 → Go M Q kc ks pcT L1 st1 h) (k2 : ¬ c0 → Go M Q kc ks pcF L1 st1 h) : Go M Q kc ks pc L st h :=
  fun p l e s m args below meth c D ca sv B0 ok => x p l e _ s m args below meth c D ca sv B0 _ ok (fun hc => k1 hc p l e s m args below meth c D ca sv B0 ok) (fun hc => k2 hc p l e s m args below meth c D ca sv B0 ok)
theorem St.trans {M : Ms} {kc1 ks1 pc1 : Nat} {L1 : List (Option Value)} {st1 : List Value} {h1 : Hp} {kc2 ks2 pc2 : Nat} {L2 : List (Option Value)} {st2 : List Value} {h2 : Hp} {kc ks pc : Nat} {L : List (Option Value)} {st : List Value} {h : Hp} (x : St M kc1 ks1 pc1 L1 st1 h1 kc ks pc L st h) (y : St M kc2 ks2 pc2 L2 st2 h2 kc1 ks1 pc1 L1 st1 h1) : St M kc2 ks2 pc2 L2 st2 h2 kc ks pc L st h :=
  fun p l e R s m args below meth c D ca sv B0 Z ok k => x p l e R s m args below meth c D ca sv B0 Z ok (y p l e R s m args below meth c D ca sv B0 Z ok k)
/-- how many cells there are -/
theorem hsize {p : Program} {l : Launch} {e : Env} {R : Room} {s : State} {m : MethodId} {args : Array Value} {below : List Frame} {meth : Method} {c : Code} {T : State} {locs : List Loc} {kc ks : Nat} {D : va_G} {ca : Nat → ClassId} {B0 : Nat} {h : Hp} {H : Heap} (X : Stand p l e R s m args below meth c T locs kc ks) (hT : T.heap = H) (hP : va_P D vwCl (wld ca B0 h) H) (hS : va_S (fun q => B0 ≤ q) s.heap H locs) (hB : B0 ≤ s.heap.size) (hz : s.heap.size + kc = B0 + h.1) : H.size = B0 + h.1 := by
  have h1 := X.heapSize
  rw [hT, hz] at h1
  have h2 : B0 + h.1 ≤ H.size := by
    rcases hn : h.1 with _ | n
    · exact Nat.le_trans hB hS.1
    · have := (hP n _ (wld_get (by omega))).lt
      simp only at this
      omega
  omega
theorem EvM.of {M : Ms} {as : List Value} {h : Hp} {Q : Option Value → Hp → Prop} (hy : plainName (mY M).cls = true) (hn : (as.map fun v => v.category).sum ≤ mL M) (k : Go M Q 0 0 0 (entL (mL M) as) [] h) : EvM M as h Q := by
  intro l D ca sv B0
  refine Met.ofW (cc := mC M) (maxL := mL M) (ret := mR M) hy rfl ?_
  intro p e s m args below meth c s₁ B hml hv
  obtain ⟨rfl, hsz, hP, hX⟩ := hv
  have hts := atoms_spec (ws := mW M :: TB) B.pre
  have hown : s.vm.findClass (mY M).cls = some m.cls := findClass_of_methodNamed B.named
  have hin : meth.name = (mY M).name := (name_of_methodNamed B.named B.method).1
  have hs := hX.2.2.2.2.1
  have hl := lv_entry (as.map (ph B0 sv)) (n := mL M) (by rw [lg_sl_len hs]; exact hn)
  rw [lg_entry_eq]
  exact k p l e s m _ below meth c D ca sv B0 ⟨B.exec, B.bytes, hml, hown, fun w hw => hts w (List.mem_cons_of_mem _ hw), hX, by omega, B.returns, B.notSynchronized, fun q => hin.trans q, rfl⟩ s.heap [] _ hP va_S.rf (Lc.entry hs hl) (by omega)
theorem pC_blind {D : va_G} {ca : Nat → ClassId} {sv : Nat → Value} {B0 : Nat} {h : Hp} {av : List Value} : FrameBlind (va_Pc av (pC D ca sv B0 h)) := fun a U g mk q => by
  obtain ⟨q0, q1, q2, q3⟩ := q
  exact ⟨q0, q1, q2, CX.same (u := U) (U := U.calling g mk a) rfl q3⟩
