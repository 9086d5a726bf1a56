/-! what a launch gives besides the heap: classes, arrays, texts, the JDK's statics -/
theorem instOk : ∀ (tag : Nat) (r : vw_C), vwCl[tag]? = some r → Cond.instantiable r.1 r.2.2 ∈ TB := by
  intro tag r h
  match tag, h with
  | 0, h => cases h; exact q159
  | 1, h => cases h; exact q114
  | 2, h => cases h; exact q108
  | 3, h => cases h; exact q181
  | 4, h => cases h; exact q240
  | 5, h => cases h; exact q203
  | 6, h => cases h; exact q276
  | 7, h => cases h; exact q29
  | 8, h => cases h; exact q224
  | 9, h => cases h; exact q21
  | 10, h => cases h; exact q982
  | n + 11, h => simp at h
theorem e_cls {s : State} {args : Array Value} (hts : ∀ w ∈ TB, w.before args s = true) : ∃ D : va_G, ∀ (c : Nat) (q : vw_C), vwCl[c]? = some q → u_Kn s q.1 q.2.1 q.2.2 (D.1 c) (D.2 c) := by
  have h0 : ∀ c : Nat, ∃ x : ClassId × (Nat → Nat), ∀ q : vw_C, vwCl[c]? = some q → u_Kn s q.1 q.2.1 q.2.2 x.1 x.2 := by
    intro c
    cases h : vwCl[c]? with
    | none => exact ⟨(0, fun _ => 0), fun q hq => by cases hq⟩
    | some r =>
      obtain ⟨cC, iS, hK⟩ := u_known hts (clsOk c r h).1 (hts _ (instOk c r h))
      exact ⟨(cC, iS), fun q hq => by cases hq; exact hK⟩
  obtain ⟨f, hf⟩ := Classical.axiomOfChoice h0
  exact ⟨(fun c => (f c).1, fun c => (f c).2), hf⟩
theorem e_arr {s : State} {args : Array Value} {ty : FieldType} (h : (Cond.arrayClass ty).before args s = true) (ho : ∀ C, ty ≠ .object C) : ∃ cA : ClassId, ArrOfT s cA ty ∧ va_RA s cA ty := by
  obtain ⟨c, k, comp, h1, h2, h3⟩ := Cond.arrayClass_spec h
  refine ⟨c, fun n z => ⟨fun k h => (by cases h), k, h2, comp, h3⟩, ?_⟩
  cases ty with
  | object C => exact absurd rfl (ho C)
  | _ => exact h1
theorem e_arrO {s : State} {args : Array Value} {C : String} (h : (Cond.arrayOver (.object C)).before args s = true) : ∃ cA : ClassId, ArrOfT s cA (.object C) ∧ va_RA s cA (.object C) := by
  obtain ⟨comp, c, k, h1, -, h3, h4, h5⟩ := Cond.arrayOver_spec h
  exact ⟨c, fun n z => ⟨fun k h => (by cases h), k, h3, comp, h4⟩, k, comp, h3, h4, h1, h5⟩
theorem e_tys {s : State} {args : Array Value} (hts : ∀ w ∈ lw_tbl, w.before args s = true) : ∃ ca : Nat → ClassId, ∀ (k : Nat) (q : ClassId × FieldType), (tysOf ca)[k]? = some q → ArrOfT s q.1 q.2 ∧ va_RA s q.1 q.2 := by
  obtain ⟨c1, a1⟩ := e_arr (hts (Cond.arrayClass .int) (by decide +kernel)) (fun C => by simp)
  obtain ⟨c2, a2⟩ := e_arr (hts (Cond.arrayClass .boolean) (by decide +kernel)) (fun C => by simp)
  obtain ⟨c3, a3⟩ := e_arr (hts (Cond.arrayClass .long) (by decide +kernel)) (fun C => by simp)
  obtain ⟨c4, a4⟩ := e_arrO (C := RX7) (hts (Cond.arrayOver (.object RX7)) (by decide +kernel))
  obtain ⟨c5, a5⟩ := e_arrO (C := RX6) (hts (Cond.arrayOver (.object RX6)) (by decide +kernel))
  refine ⟨fun k => match k with | 11 => c1 | 12 => c2 | 13 => c3 | 14 => c4 | _ => c5, fun k q h => ?_⟩
  match k, h with
  | 0, h => cases h; exact a1
  | 1, h => cases h; exact a2
  | 2, h => cases h; exact a3
  | 3, h => cases h; exact a4
  | 4, h => cases h; exact a5
  | n + 5, h => simp [tysOf] at h
theorem e_nest {s : State} {args : Array Value} (hts : ∀ w ∈ lw_tbl, w.before args s = true) : ∀ w ∈ nestW, ∃ a i x b, w = Cond.methodLinkNest a i x b ∧ va_Nw w s := by
  have h1 : ∀ w ∈ nestW, w ∈ lw_tbl := by decide +kernel
  intro w hw
  have hq := hts w (h1 w hw)
  simp only [nestW, List.mem_cons, List.not_mem_nil, or_false] at hw
  rcases hw with rfl | rfl | rfl | rfl | rfl | rfl <;> exact ⟨_, _, _, _, rfl, va_Nw.of rfl hq⟩
def tmS (i : Nat) : Term := Term.string RX4 (sIx i)
theorem e_str {s : State} {args : Array Value} {A : Nat → Prop} (hgv : (Jvm.Cond.and given_1 narrow_1).before args s = true) (hA : ∀ a : Nat, a < s.heap.size → ¬ A a) : ∃ adK adV : Nat → Nat, vk_S 7 lenS bytS adK adV A s s.heap ∧ ∀ i : Nat, i < 7 → (tmS i).eval args s none [] s = some (.ref (adK i)) := by
  have hs := flat_of_before _ hgv
  refine vk_Sof (by decide) (fun i hi => hs _ ?_) (fun i hi => hs _ ?_) (fun i hi => hs _ ?_) (fun i hi => hs _ ?_) (fun i hi j hj => hs _ ?_) (fun i j hi hj hne => ?_) hA
  · revert i; decide +kernel
  · revert i; decide +kernel
  · revert i; decide +kernel
  · revert i; decide +kernel
  · revert j; revert i; decide +kernel
  · have h7 : ∀ i, i < 7 → ∀ j, j < 7 → i < j → (Cond.not (Cond.eq (tmS i) (tmS j))) ∈ flatC (given_1.and narrow_1) := by decide +kernel
    rcases Nat.lt_or_gt_of_ne hne with h | h
    · exact Or.inl (hs _ (h7 i hi j hj h))
    · exact Or.inr (hs _ (h7 j hj i hi h))
theorem e_cx {s : State} {b : Nat} (hts : ∀ w ∈ lw_tbl, w.before #[Value.ref b] s = true) (hgv : (Jvm.Cond.and given_1 narrow_1).before #[Value.ref b] s = true) : ∃ (D : va_G) (ca : Nat → ClassId) (sv : Nat → Value), CX D ca sv s.heap.size s s.heap ∧ sv 998 = .ref b := by
  have hA : ∀ a : Nat, a < s.heap.size → ¬ (fun q => s.heap.size ≤ q) a := fun a h => Nat.not_le.mpr h
  have hs := flat_of_before _ hgv
  obtain ⟨D, hD⟩ := e_cls (fun w hw => hts w (List.mem_filter.mp hw).1)
  obtain ⟨ca, hca⟩ := e_tys hts
  obtain ⟨adK, adV, hS, hE⟩ := e_str (A := fun q => s.heap.size ≤ q) hgv hA
  have h1 : va_Z RJ0 "COMPACT_STRINGS" "Z" (.int 1) (fun q => s.heap.size ≤ q) s s.heap := va_Zof (hts _ (by decide +kernel)) (hts _ (by decide +kernel)) (va_eqi (hs _ (by decide +kernel))) hA
  have h2 : va_Zq RJ3 "SIOOBE_FORMATTER" "Ljava/util/function/BiFunction;" (fun q => s.heap.size ≤ q) s s.heap := va_Zqof (hts _ (by decide +kernel)) (hts _ (by decide +kernel)) (hs _ (by decide +kernel)) hA
  obtain ⟨fv, hf, h2⟩ : ∃ fv : Value, fv.category = 1 ∧ va_Z RJ3 "SIOOBE_FORMATTER" "Ljava/util/function/BiFunction;" fv (fun q => s.heap.size ≤ q) s s.heap := by
    rcases h2 with h | ⟨t, h⟩
    · exact ⟨_, rfl, h⟩
    · exact ⟨_, rfl, h⟩
  refine ⟨D, ca, fun k => if k < 7 then .ref (adK k) else if 100 ≤ k ∧ k < 107 then .ref (adV (k - 100)) else if k = 998 then .ref b else if k = 999 then fv else .null, ⟨⟨hD, hca⟩, e_nest hts, va_AO.of (hts _ (by decide +kernel)), va_AO.of (hts _ (by decide +kernel)), fun k => ?_, ⟨adK, adV, fun i hi => ⟨?_, ?_⟩, fun i hi => vk_R.of (hts _ ?_) (hE i hi), hS⟩, h1, ?_⟩, ?_⟩
  · dsimp only
    split
    · rfl
    · split
      · rfl
      · split
        · rfl
        · split
          · exact hf
          · rfl
  · simp [hi]
  · simp [show ¬ 100 + i < 7 by omega, show 100 + i < 107 by omega]
  · revert i
    decide +kernel
  · simpa using h2
  · simp
set_option maxRecDepth 100000 in
/-- THE LAW, from its entry -/
theorem whole_start {p : Program} {e : Env} {s : State} {m : MethodId} {below : List Frame} {meth : Method} {c : Code} (l : Launch) (hflags : l.flags = flags0) {b L : Nat} {xs : Nat → Int32} (hL : L ≤ 3072) (C0 : lw_At p s m meth c b L xs) : W p l e room_1 s m #[Value.ref b] below meth c s.heap [] 0 0 (lw_Z below #[Value.ref b] s) (entryFrame m ([Value.ref b] : List Value).toArray 4) := by
  obtain ⟨hx, hb, hr, hml, hown, hts, hX, hbl, hlocks, hgv⟩ := id C0
  obtain ⟨D, ca, sv, cx, h998⟩ := e_cx hts hgv
  have hl := lv_entry ([.ref b]) (n := 4) (Nat.le_of_ble_eq_true rfl)
  rw [lg_entry_eq]
  have hl2 := Lc.entry (B0 := s.heap.size) (sv := sv) (nL := 4) (as := [.retAddr 998]) cx.2.2.2.2.1 (by rw [show ([Value.retAddr 998] : List Value).map (ph s.heap.size sv) = [.ref b] by simp [ph, h998]]; exact hl)
  exact l_start hL p l e s m b below meth c D ca sv s.heap.size ⟨hx, hb, hml, hown, fun w hw => hts w (List.mem_filter.mp hw).1, cx, Nat.le_refl _, hr, hlocks, fun h => absurd h (by decide), rfl⟩ ⟨hX, hbl, rfl, h998⟩ s.heap [] _ (fun k q h => by simp [wld, zz0] at h) va_S.rf hl2 rfl
